section
-- ===== PART A: goes FIRST, ahead of the names: the tables' words, and 'selects' of the private methods out of them =====
/-- a private method of a class that the tables say can be made, by its rows of tables_1 -/
def lw_okq (q : MethodName × Nat) : Prop := (q.1.cls ≠ "java/lang/invoke/MethodHandle" ∧ q.1.cls ≠ "java/lang/invoke/VarHandle") ∧ Cond.instantiable q.1.cls q.2 ∈ tables_1 ∧ Cond.privateMethod q.1 ∈ tables_1 ∧ Cond.instanceMethod q.1 ∈ tables_1
theorem lw_p0 : lw_okq (⟨"java/lang/Throwable", "fillInStackTrace", "(I)Ljava/lang/Throwable;"⟩, 6) := ⟨⟨by decide +kernel, by decide +kernel⟩, List.mem_of_getElem? (i := 138) (by decide +kernel), List.mem_of_getElem? (i := 136) (by decide +kernel), List.mem_of_getElem? (i := 137) (by decide +kernel)⟩
theorem lw_p1 : lw_okq (⟨"java/util/ArrayList", "add", "(Ljava/lang/Object;[Ljava/lang/Object;I)V"⟩, 3) := ⟨⟨by decide +kernel, by decide +kernel⟩, List.mem_of_getElem? (i := 32) (by decide +kernel), List.mem_of_getElem? (i := 203) (by decide +kernel), List.mem_of_getElem? (i := 204) (by decide +kernel)⟩
theorem lw_p2 : lw_okq (⟨"java/util/ArrayList", "grow", "()[Ljava/lang/Object;"⟩, 3) := ⟨⟨by decide +kernel, by decide +kernel⟩, List.mem_of_getElem? (i := 32) (by decide +kernel), List.mem_of_getElem? (i := 207) (by decide +kernel), List.mem_of_getElem? (i := 208) (by decide +kernel)⟩
theorem lw_p3 : lw_okq (⟨"java/util/ArrayList", "grow", "(I)[Ljava/lang/Object;"⟩, 3) := ⟨⟨by decide +kernel, by decide +kernel⟩, List.mem_of_getElem? (i := 32) (by decide +kernel), List.mem_of_getElem? (i := 211) (by decide +kernel), List.mem_of_getElem? (i := 212) (by decide +kernel)⟩
theorem lw_p4 : lw_okq (⟨"CoalHulks", "countFaring", "(I)I"⟩, 7) := ⟨⟨by decide +kernel, by decide +kernel⟩, List.mem_of_getElem? (i := 24) (by decide +kernel), List.mem_of_getElem? (i := 356) (by decide +kernel), List.mem_of_getElem? (i := 357) (by decide +kernel)⟩
theorem lw_p5 : lw_okq (⟨"CoalHulks", "findLighter", "(I)LCoalHulks$Lighter;"⟩, 7) := ⟨⟨by decide +kernel, by decide +kernel⟩, List.mem_of_getElem? (i := 24) (by decide +kernel), List.mem_of_getElem? (i := 392) (by decide +kernel), List.mem_of_getElem? (i := 393) (by decide +kernel)⟩
theorem lw_p6 : lw_okq (⟨"CoalHulks", "findGang", "(I)LCoalHulks$Gang;"⟩, 7) := ⟨⟨by decide +kernel, by decide +kernel⟩, List.mem_of_getElem? (i := 24) (by decide +kernel), List.mem_of_getElem? (i := 412) (by decide +kernel), List.mem_of_getElem? (i := 413) (by decide +kernel)⟩
theorem lw_p7 : lw_okq (⟨"CoalHulks", "findSteamer", "(I)LCoalHulks$Steamer;"⟩, 7) := ⟨⟨by decide +kernel, by decide +kernel⟩, List.mem_of_getElem? (i := 24) (by decide +kernel), List.mem_of_getElem? (i := 417) (by decide +kernel), List.mem_of_getElem? (i := 418) (by decide +kernel)⟩
theorem lw_p8 : lw_okq (⟨"CoalHulks", "findHulk", "(I)LCoalHulks$Hulk;"⟩, 7) := ⟨⟨by decide +kernel, by decide +kernel⟩, List.mem_of_getElem? (i := 24) (by decide +kernel), List.mem_of_getElem? (i := 461) (by decide +kernel), List.mem_of_getElem? (i := 462) (by decide +kernel)⟩
theorem lw_p9 : lw_okq (⟨"CoalHulks", "passAnHour", "()I"⟩, 7) := ⟨⟨by decide +kernel, by decide +kernel⟩, List.mem_of_getElem? (i := 24) (by decide +kernel), List.mem_of_getElem? (i := 484) (by decide +kernel), List.mem_of_getElem? (i := 485) (by decide +kernel)⟩
theorem lw_p10 : lw_okq (⟨"CoalHulks", "restGangs", "()V"⟩, 7) := ⟨⟨by decide +kernel, by decide +kernel⟩, List.mem_of_getElem? (i := 24) (by decide +kernel), List.mem_of_getElem? (i := 488) (by decide +kernel), List.mem_of_getElem? (i := 489) (by decide +kernel)⟩
theorem lw_p11 : lw_okq (⟨"CoalHulks", "takeBuoys", "()V"⟩, 7) := ⟨⟨by decide +kernel, by decide +kernel⟩, List.mem_of_getElem? (i := 24) (by decide +kernel), List.mem_of_getElem? (i := 492) (by decide +kernel), List.mem_of_getElem? (i := 493) (by decide +kernel)⟩
theorem lw_p12 : lw_okq (⟨"CoalHulks", "workLighters", "()V"⟩, 7) := ⟨⟨by decide +kernel, by decide +kernel⟩, List.mem_of_getElem? (i := 24) (by decide +kernel), List.mem_of_getElem? (i := 496) (by decide +kernel), List.mem_of_getElem? (i := 497) (by decide +kernel)⟩
theorem lw_p13 : lw_okq (⟨"CoalHulks", "work", "(LCoalHulks$Lighter;LCoalHulks$Order;)V"⟩, 7) := ⟨⟨by decide +kernel, by decide +kernel⟩, List.mem_of_getElem? (i := 24) (by decide +kernel), List.mem_of_getElem? (i := 500) (by decide +kernel), List.mem_of_getElem? (i := 501) (by decide +kernel)⟩
theorem lw_p14 : lw_okq (⟨"CoalHulks", "workAtSteamer", "(LCoalHulks$Lighter;LCoalHulks$Order;)V"⟩, 7) := ⟨⟨by decide +kernel, by decide +kernel⟩, List.mem_of_getElem? (i := 24) (by decide +kernel), List.mem_of_getElem? (i := 521) (by decide +kernel), List.mem_of_getElem? (i := 522) (by decide +kernel)⟩
theorem lw_p15 : lw_okq (⟨"CoalHulks", "shovelIntoSteamer", "(LCoalHulks$Lighter;LCoalHulks$Order;)V"⟩, 7) := ⟨⟨by decide +kernel, by decide +kernel⟩, List.mem_of_getElem? (i := 24) (by decide +kernel), List.mem_of_getElem? (i := 525) (by decide +kernel), List.mem_of_getElem? (i := 526) (by decide +kernel)⟩
def lw_privs_1 : List (MethodName × Nat) := [(⟨"java/lang/Throwable", "fillInStackTrace", "(I)Ljava/lang/Throwable;"⟩, 6), (⟨"java/util/ArrayList", "add", "(Ljava/lang/Object;[Ljava/lang/Object;I)V"⟩, 3), (⟨"java/util/ArrayList", "grow", "()[Ljava/lang/Object;"⟩, 3), (⟨"java/util/ArrayList", "grow", "(I)[Ljava/lang/Object;"⟩, 3), (⟨"CoalHulks", "countFaring", "(I)I"⟩, 7), (⟨"CoalHulks", "findLighter", "(I)LCoalHulks$Lighter;"⟩, 7), (⟨"CoalHulks", "findGang", "(I)LCoalHulks$Gang;"⟩, 7), (⟨"CoalHulks", "findSteamer", "(I)LCoalHulks$Steamer;"⟩, 7), (⟨"CoalHulks", "findHulk", "(I)LCoalHulks$Hulk;"⟩, 7), (⟨"CoalHulks", "passAnHour", "()I"⟩, 7), (⟨"CoalHulks", "restGangs", "()V"⟩, 7), (⟨"CoalHulks", "takeBuoys", "()V"⟩, 7), (⟨"CoalHulks", "workLighters", "()V"⟩, 7), (⟨"CoalHulks", "work", "(LCoalHulks$Lighter;LCoalHulks$Order;)V"⟩, 7), (⟨"CoalHulks", "workAtSteamer", "(LCoalHulks$Lighter;LCoalHulks$Order;)V"⟩, 7), (⟨"CoalHulks", "shovelIntoSteamer", "(LCoalHulks$Lighter;LCoalHulks$Order;)V"⟩, 7)]
theorem lw_r1 : ∀ q ∈ lw_privs_1, lw_okq q := List.forall_mem_cons.mpr ⟨lw_p0, List.forall_mem_cons.mpr ⟨lw_p1, List.forall_mem_cons.mpr ⟨lw_p2, List.forall_mem_cons.mpr ⟨lw_p3, List.forall_mem_cons.mpr ⟨lw_p4, List.forall_mem_cons.mpr ⟨lw_p5, List.forall_mem_cons.mpr ⟨lw_p6, List.forall_mem_cons.mpr ⟨lw_p7, List.forall_mem_cons.mpr ⟨lw_p8, List.forall_mem_cons.mpr ⟨lw_p9, List.forall_mem_cons.mpr ⟨lw_p10, List.forall_mem_cons.mpr ⟨lw_p11, List.forall_mem_cons.mpr ⟨lw_p12, List.forall_mem_cons.mpr ⟨lw_p13, List.forall_mem_cons.mpr ⟨lw_p14, List.forall_mem_cons.mpr ⟨lw_p15, fun _ h => absurd h List.not_mem_nil⟩⟩⟩⟩⟩⟩⟩⟩⟩⟩⟩⟩⟩⟩⟩⟩
theorem lw_p16 : lw_okq (⟨"CoalHulks", "letSteamersLeave", "()I"⟩, 7) := ⟨⟨by decide +kernel, by decide +kernel⟩, List.mem_of_getElem? (i := 24) (by decide +kernel), List.mem_of_getElem? (i := 532) (by decide +kernel), List.mem_of_getElem? (i := 533) (by decide +kernel)⟩
theorem lw_p17 : lw_okq (⟨"CoalHulks", "recallLighters", "(LCoalHulks$Steamer;)V"⟩, 7) := ⟨⟨by decide +kernel, by decide +kernel⟩, List.mem_of_getElem? (i := 24) (by decide +kernel), List.mem_of_getElem? (i := 536) (by decide +kernel), List.mem_of_getElem? (i := 537) (by decide +kernel)⟩
theorem lw_p18 : lw_okq (⟨"CoalHulks", "forgetTheLeft", "()V"⟩, 7) := ⟨⟨by decide +kernel, by decide +kernel⟩, List.mem_of_getElem? (i := 24) (by decide +kernel), List.mem_of_getElem? (i := 543) (by decide +kernel), List.mem_of_getElem? (i := 544) (by decide +kernel)⟩
theorem lw_p19 : lw_okq (⟨"java/util/ArrayList", "fastRemove", "([Ljava/lang/Object;I)V"⟩, 3) := ⟨⟨by decide +kernel, by decide +kernel⟩, List.mem_of_getElem? (i := 32) (by decide +kernel), List.mem_of_getElem? (i := 551) (by decide +kernel), List.mem_of_getElem? (i := 552) (by decide +kernel)⟩
theorem lw_p20 : lw_okq (⟨"CoalHulksModel", "many", "(I)I"⟩, 22) := ⟨⟨by decide +kernel, by decide +kernel⟩, List.mem_of_getElem? (i := 620) (by decide +kernel), List.mem_of_getElem? (i := 714) (by decide +kernel), List.mem_of_getElem? (i := 715) (by decide +kernel)⟩
theorem lw_p21 : lw_okq (⟨"CoalHulksModel", "isBusy", "(I)Z"⟩, 22) := ⟨⟨by decide +kernel, by decide +kernel⟩, List.mem_of_getElem? (i := 620) (by decide +kernel), List.mem_of_getElem? (i := 725) (by decide +kernel), List.mem_of_getElem? (i := 726) (by decide +kernel)⟩
theorem lw_p22 : lw_okq (⟨"CoalHulksModel", "hourOnce", "()I"⟩, 22) := ⟨⟨by decide +kernel, by decide +kernel⟩, List.mem_of_getElem? (i := 620) (by decide +kernel), List.mem_of_getElem? (i := 741) (by decide +kernel), List.mem_of_getElem? (i := 742) (by decide +kernel)⟩
theorem lw_p23 : lw_okq (⟨"CoalHulksModel", "work", "(I)V"⟩, 22) := ⟨⟨by decide +kernel, by decide +kernel⟩, List.mem_of_getElem? (i := 620) (by decide +kernel), List.mem_of_getElem? (i := 745) (by decide +kernel), List.mem_of_getElem? (i := 746) (by decide +kernel)⟩
theorem lw_p24 : lw_okq (⟨"CoalHulksModel", "atHulk", "(I)V"⟩, 22) := ⟨⟨by decide +kernel, by decide +kernel⟩, List.mem_of_getElem? (i := 620) (by decide +kernel), List.mem_of_getElem? (i := 749) (by decide +kernel), List.mem_of_getElem? (i := 750) (by decide +kernel)⟩
theorem lw_p25 : lw_okq (⟨"CoalHulksModel", "shovels", "(II)I"⟩, 22) := ⟨⟨by decide +kernel, by decide +kernel⟩, List.mem_of_getElem? (i := 620) (by decide +kernel), List.mem_of_getElem? (i := 756) (by decide +kernel), List.mem_of_getElem? (i := 757) (by decide +kernel)⟩
theorem lw_p26 : lw_okq (⟨"CoalHulksModel", "endOrder", "(I)V"⟩, 22) := ⟨⟨by decide +kernel, by decide +kernel⟩, List.mem_of_getElem? (i := 620) (by decide +kernel), List.mem_of_getElem? (i := 760) (by decide +kernel), List.mem_of_getElem? (i := 761) (by decide +kernel)⟩
theorem lw_p27 : lw_okq (⟨"CoalHulksModel", "atSteamer", "(I)V"⟩, 22) := ⟨⟨by decide +kernel, by decide +kernel⟩, List.mem_of_getElem? (i := 620) (by decide +kernel), List.mem_of_getElem? (i := 764) (by decide +kernel), List.mem_of_getElem? (i := 765) (by decide +kernel)⟩
theorem lw_p28 : lw_okq (⟨"CoalHulksModel", "turnHome", "(I)V"⟩, 22) := ⟨⟨by decide +kernel, by decide +kernel⟩, List.mem_of_getElem? (i := 620) (by decide +kernel), List.mem_of_getElem? (i := 768) (by decide +kernel), List.mem_of_getElem? (i := 769) (by decide +kernel)⟩
theorem lw_p29 : lw_okq (⟨"CoalHulksModel", "goOn", "(I)V"⟩, 22) := ⟨⟨by decide +kernel, by decide +kernel⟩, List.mem_of_getElem? (i := 620) (by decide +kernel), List.mem_of_getElem? (i := 772) (by decide +kernel), List.mem_of_getElem? (i := 773) (by decide +kernel)⟩
theorem lw_p30 : lw_okq (⟨"CoalHulksModel", "leave", "(I)V"⟩, 22) := ⟨⟨by decide +kernel, by decide +kernel⟩, List.mem_of_getElem? (i := 620) (by decide +kernel), List.mem_of_getElem? (i := 776) (by decide +kernel), List.mem_of_getElem? (i := 777) (by decide +kernel)⟩
theorem lw_p31 : lw_okq (⟨"CoalHulksModel", "told", "([III)I"⟩, 22) := ⟨⟨by decide +kernel, by decide +kernel⟩, List.mem_of_getElem? (i := 620) (by decide +kernel), List.mem_of_getElem? (i := 788) (by decide +kernel), List.mem_of_getElem? (i := 789) (by decide +kernel)⟩
def lw_privs_2 : List (MethodName × Nat) := [(⟨"CoalHulks", "letSteamersLeave", "()I"⟩, 7), (⟨"CoalHulks", "recallLighters", "(LCoalHulks$Steamer;)V"⟩, 7), (⟨"CoalHulks", "forgetTheLeft", "()V"⟩, 7), (⟨"java/util/ArrayList", "fastRemove", "([Ljava/lang/Object;I)V"⟩, 3), (⟨"CoalHulksModel", "many", "(I)I"⟩, 22), (⟨"CoalHulksModel", "isBusy", "(I)Z"⟩, 22), (⟨"CoalHulksModel", "hourOnce", "()I"⟩, 22), (⟨"CoalHulksModel", "work", "(I)V"⟩, 22), (⟨"CoalHulksModel", "atHulk", "(I)V"⟩, 22), (⟨"CoalHulksModel", "shovels", "(II)I"⟩, 22), (⟨"CoalHulksModel", "endOrder", "(I)V"⟩, 22), (⟨"CoalHulksModel", "atSteamer", "(I)V"⟩, 22), (⟨"CoalHulksModel", "turnHome", "(I)V"⟩, 22), (⟨"CoalHulksModel", "goOn", "(I)V"⟩, 22), (⟨"CoalHulksModel", "leave", "(I)V"⟩, 22), (⟨"CoalHulksModel", "told", "([III)I"⟩, 22)]
theorem lw_r2 : ∀ q ∈ lw_privs_2, lw_okq q := List.forall_mem_cons.mpr ⟨lw_p16, List.forall_mem_cons.mpr ⟨lw_p17, List.forall_mem_cons.mpr ⟨lw_p18, List.forall_mem_cons.mpr ⟨lw_p19, List.forall_mem_cons.mpr ⟨lw_p20, List.forall_mem_cons.mpr ⟨lw_p21, List.forall_mem_cons.mpr ⟨lw_p22, List.forall_mem_cons.mpr ⟨lw_p23, List.forall_mem_cons.mpr ⟨lw_p24, List.forall_mem_cons.mpr ⟨lw_p25, List.forall_mem_cons.mpr ⟨lw_p26, List.forall_mem_cons.mpr ⟨lw_p27, List.forall_mem_cons.mpr ⟨lw_p28, List.forall_mem_cons.mpr ⟨lw_p29, List.forall_mem_cons.mpr ⟨lw_p30, List.forall_mem_cons.mpr ⟨lw_p31, fun _ h => absurd h List.not_mem_nil⟩⟩⟩⟩⟩⟩⟩⟩⟩⟩⟩⟩⟩⟩⟩⟩
def lw_privs : List (MethodName × Nat) := lw_privs_1 ++ (lw_privs_2)
def lw_tbl : List Cond := k2_sels lw_privs ++ tables_1
theorem lw_privs_ok : ∀ q ∈ lw_privs, lw_okq q := by
  show ∀ q ∈ lw_privs_1 ++ (lw_privs_2), lw_okq q
  exact List.forall_mem_append.mpr ⟨lw_r1, lw_r2⟩
end
section
/-! ===== BEGIN words of one list among another's, by their places ===== -/
theorem goodIn_r {big : List Cond} (ws : List Cond) (ps : List Nat) (hp : ws = ps.filterMap (fun i => big[i]?)) (h : ws.all goodWord = true) : GoodIn big ws := by
  intro w hw
  have h1 := List.all_eq_true.mp h w hw
  rw [hp] at hw
  obtain ⟨i, -, hi⟩ := List.mem_filterMap.mp hw
  have hm : w ∈ big := by first | exact List.mem_of_getElem? hi | exact List.getElem?_mem hi
  exact ⟨hm, good_of_word h1⟩
theorem goodIn_app {big a b : List Cond} (ha : GoodIn big a) (hb : GoodIn big b) : GoodIn big (a ++ b) := fun w h => (List.mem_append.mp h).elim (ha w) (hb w)
theorem goodIn_ca {big a b : List Cond} {c : Cond} (ha : GoodIn big (c :: a)) (hb : GoodIn big b) : GoodIn big (c :: (a ++ b)) := fun w h => (List.mem_cons.mp h).elim (fun e => ha w (List.mem_cons.mpr (Or.inl e))) (fun h => (List.mem_append.mp h).elim (fun h => ha w (List.mem_cons.mpr (Or.inr h))) (hb w))
theorem goodIn_sub {big ws : List Cond} (hm : ∀ w ∈ ws, w ∈ big) (h : ws.all goodWord = true) : GoodIn big ws := fun w hw => ⟨hm w hw, good_of_word (List.all_eq_true.mp h w hw)⟩
/-! ===== END ===== -/

/-! ===== BEGIN exceptions that leave a method, and their catching by the caller (launches without stack traces) ===== -/
section VXA
/-! The laws vx_back, vx_callV, vx_callS, vx_callSW, vx_throw0, vx_throwS follow proofs of the library, with one case more: JvmDerived/Free/Laws.lean (Back.of_free), Shelf42/LK1.lean (callV, callS), Shelf/KitTraced.lean (throwNew0V, throwNewS). -/
/-- where a method has thrown q: the class by its name, the cell, what was written, the world -/
def vx_T (XC : String → State → State → Prop) (st : State) (q : Addr) (t : State) (mc ms : Nat) (free : Addr → Prop) : Prop :=
  ∃ (E : String) (ce : Cell) (L : List Loc), XC E st t ∧ t.heap[q]? = some ce ∧ ce.vm = .none ∧ st.vm.findClass E = some ce.cls ∧ st.WarmedH t.vm ∧ st.sameButNew ({ t with vm := st.vm } : State) L mc ms ∧ ∀ z ∈ L, free z.base
def vx_Q (Qc : Array Value → State → Outcome → State → Prop) (XC : String → State → State → Prop) (mc ms : Nat) (free : Addr → Prop) : Array Value → State → Outcome → State → Prop := fun a st o t =>
  (Qc a st o t ∧ ∃ L, FrameEnd st o t L mc ms ∧ ∀ q ∈ L, free q.base) ∨ ∃ q, o = .threw q ∧ vx_T XC st q t mc ms free
/-- a callee that returns or throws -/
def vx_Met (l : Launch) (y : MethodName) (ws : List Cond) (rm : Room) (Pc : Array Value → State → Prop) (Qc : Array Value → State → Outcome → State → Prop) (XC : String → State → State → Prop) (mc ms : Nat) (free : Addr → Prop) : Prop :=
  MetFree l y (headSpec ws rm) Pc (fun _ _ _ _ _ => True) (vx_Q Qc XC mc ms free)
def vx_Post (XC : String → State → State → Prop) (mc ms : Nat) (free : Addr → Prop) : Pt → Array Value → Addr → Pt → Prop := fun A a q B =>
  ∃ (g : JFrame) (mk : MethodId) (t : State) (L : List Loc) (E : String) (ce : Cell), B.U.heap = t.heap ∧ B.U.vm = t.vm ∧ XC E (A.U.calling g mk a) t ∧ t.heap[q]? = some ce ∧ ce.vm = .none ∧ A.U.vm.findClass E = some ce.cls ∧ B.locs = A.locs ++ L ∧ (∀ z ∈ L, free z.base) ∧ B.cells = A.cells + mc ∧ B.slots = A.slots + ms
def vx_Back (l : Launch) (R : Room) (p : Program) (e : Env) (below : List Frame) (s : State) (sargs : Array Value) (y : MethodName) (len W9 : Nat)
    (Pre : Pt → Array Value → Prop) (Post : Pt → Array Value → Option Value → Pt → Prop) (PostX : Pt → Array Value → Addr → Pt → Prop) : Prop :=
  ∀ (m : MethodId) (meth : Method) (c : Code) (A : Pt) (g : JFrame) (ig : Instr) (mk : MethodId) (a : Array Value),
    Stand p l e R s m sargs below meth c A.U A.locs A.cells A.slots → g.method = m → g.locals.size = c.maxLocals → decode c.code g.pc = .ok (ig, len) →
    2 * g.monitorRoom + (g.stack.map fun v => v.category).sum ≤ W9 → A.U.methodNamed? y = some mk → Pre A a →
    (∃ (v : Option Value) (B : Pt), Stand p l e R s m sargs below meth c B.U B.locs B.cells B.slots ∧ Post A a v B ∧
      Steps p.tables e below (doInvoke e (A.U.setTop g) [] mk a).1 (B.U.setTop { g with pc := g.pc + len, stack := v.toList ++ g.stack })) ∨
    (∃ (q : Addr) (B : Pt), Stand p l e R s m sargs below meth c B.U B.locs B.cells B.slots ∧ PostX A a q B ∧
      Steps p.tables e below (doInvoke e (A.U.setTop g) [] mk a).1 ((B.U.setTop g).pushFrame (.throwing q)))
section Payer
variable {l : Launch} {R : Room} {p : Program} {e : Env} {below : List Frame} {s : State} {sargs : Array Value} {y : MethodName} {len W9 : Nat}
theorem vx_back {ws : List Cond} {rm : Room} {Pc : Array Value → State → Prop} {Qc : Array Value → State → Outcome → State → Prop} {XC : String → State → State → Prop} {mc ms : Nat} {free : Addr → Prop} {bytes : ByteArray} {maxL : Nat} {ret : Option FieldType}
    (hM : vx_Met l y ws rm Pc Qc XC mc ms free) (hblind : FrameBlind Pc) (hrc : rm.cells = mc) (hrs : rm.slots = ms)
    (hframes : rm.frames + 1 ≤ R.frames) (hlocals : W9 + (maxL + 11) + rm.locals ≤ R.locals)
    (hws : ∀ w ∈ ws, ∀ a' U, s.WarmedH U.vm → w.before a' U = true) (hcode : Cond.code y bytes maxL ret ∈ ws) (hinit : ∀ a' U, s.WarmedH U.vm → (Cond.initialized y.cls).before a' U = true) :
    vx_Back l R p e below s sargs y len W9 (PreOf R mc ms Pc) (PostOf Qc mc ms free) (vx_Post XC mc ms free) := by
  intro m meth c A g ig mk a X hg hsize hdg hW hn hp
  have h1 : (headSpec ws rm).pre.before a A.U = true := atoms_intro fun w hw => hws w hw _ _ X.warmed
  have h2 : (Cond.code y bytes maxL ret).before a A.U = true := hws _ hcode _ _ X.warmed
  have h3 : (Cond.initialized y.cls).before a A.U = true := hinit _ _ X.warmed
  have h4 : A.cells + (headSpec ws rm).room.cells ≤ R.cells := by rw [show (headSpec ws rm).room.cells = mc from hrc]; exact hp.1
  have h5 : A.slots + (headSpec ws rm).room.slots ≤ R.slots := by rw [show (headSpec ws rm).room.slots = ms from hrs]; exact hp.2.1
  have hPc : Pc a (A.U.calling g mk a) := hblind _ _ _ _ hp.2.2
  obtain ⟨U, Ls, c0, s0⟩ := A
  dsimp only [Pt.U, Pt.locs, Pt.cells, Pt.slots] at h1 h2 h3 h4 h5 X hn hPc ⊢
  obtain ⟨methY, cY, hmY, hcY, -, hlY, -, -, -, -⟩ := Cond.code_spec hn h2
  obtain ⟨kY, hkY, -⟩ := className_of_methodNamed hn
  have hinitY : kY.init = .initialized := Cond.initialized_spec (findClass_of_methodNamed hn) hkY h3
  have h : At U g.method c below := by rw [hg]; exact X.here
  have hlocals9 : W9 + (maxL + 11) + (headSpec ws rm).room.locals ≤ R.locals := hlocals
  have happ : (headSpec ws rm).appliesLoose y e.platform (U.calling g mk a) = true :=
    Spec.appliesLoose_calling (g := g) h hdg hn hkY hinitY
      (X.room_calling (g := g) (R' := (headSpec ws rm).room) hsize hmY hcY hframes (by rw [hlY]; omega) h4 h5) h1
  obtain ⟨mid, hmid⟩ := h.above
  have hfr : (U.setTop g).frames = (.java g :: mid) ++ below := by rw [State.frames_setTop' g h.top, hmid]; rfl
  obtain ⟨o, s₂, hsteps, -, hend, hq⟩ := Steps.callFree hM p X.admits X.cas X.clock (acts := []) hfr happ hPc trivial
  have hq' : vx_Q Qc XC mc ms free a (U.calling g mk a) o s₂ := hq
  rw [State.frames_setTop' g h.top] at hend
  obtain ⟨g₀, hg0⟩ := Option.isSome_iff_exists.mp h.top
  obtain ⟨r, hr⟩ := State.topJava?_eq_some.mp hg0
  have hr' : (({ U with heap := s₂.heap, slotsUsed := s₂.slotsUsed } : State).setVm s₂.vm).frames = .java g₀ :: r := hr
  rcases hq' with ⟨hqc, L, hfe, hL⟩ | ⟨q, rfl, E, ce, L, hx, hce, hcv, hcl, hW₂, hsm, hL⟩
  · obtain ⟨⟨v, rfl⟩, hW₂, e2, q2, q3, q4, q5, q6⟩ := id hfe
    have e3 : s₂ = ({ (U.calling g mk a).setFrames s₂.frames with heap := s₂.heap, slotsUsed := s₂.slotsUsed } : State).setVm s₂.vm := by
      have : s₂ = ({ s₂ with vm := (U.calling g mk a).vm } : State).setVm s₂.vm := rfl
      rw [e2] at this
      exact this
    obtain ⟨c₂, i₂, len₂, hc₂, hd₂, hf₂⟩ := hend
    have hW' : U.WarmedH s₂.vm := hW₂
    have hcc : c₂ = c := by
      have h1 : s₂.code? g.method = U.code? g.method := by
        rw [State.code?_eq, State.code?_eq, hW'.alike.method?]
      exact Option.some.inj (hc₂.symm.trans (h1.trans h.code))
    subst hcc
    have hlen : len₂ = len := by rw [hdg] at hd₂; cases hd₂; rfl
    subst hlen
    have hs₂ : s₂ = (({ U with heap := s₂.heap, slotsUsed := s₂.slotsUsed } : State).setVm s₂.vm).setTop { g with pc := g.pc + len₂, stack := v.toList ++ g.stack } := by
      refine e3.trans ?_
      rw [hf₂, State.calling_eq h.top, State.setFrames_setFrames, State.setTop_of_frames _ hr', hr]
      rfl
    have hsame : U.sameButNew ({ U with heap := s₂.heap, slotsUsed := s₂.slotsUsed } : State) L mc ms := by
      refine ⟨?_, q2, q3, q4, q5, q6⟩
      obtain ⟨t, ht, -⟩ := State.frames_cons hr
      show ({ U with heap := s₂.heap, slotsUsed := s₂.slotsUsed } : State) = { U.setFrames U.frames with heap := s₂.heap, slotsUsed := s₂.slotsUsed }
      rw [State.setFrames_self ht]
    subst hg
    refine Or.inl ⟨v, ⟨(({ U with heap := s₂.heap, slotsUsed := s₂.slotsUsed } : State).setVm s₂.vm), Ls ++ L, c0 + mc, s0 + ms⟩,
      ⟨X.admits, X.cas, X.clock, X.frames, X.room, X.hears, X.method, X.code, (X.here.setHeapUsed s₂.heap s₂.slotsUsed).setVm hW'.alike, X.tail, State.WarmedH.trans X.warmed hW', X.limits, X.bytes, X.same.trans (hsame.setVm s.vm)⟩,
      ⟨g, mk, s₂, L, rfl, rfl, hqc, rfl, hL, rfl, rfl⟩, ?_⟩
    show Steps p.tables e below _ ((({ U with heap := s₂.heap, slotsUsed := s₂.slotsUsed } : State).setVm s₂.vm).setTop { g with pc := g.pc + len₂, stack := v.toList ++ g.stack })
    rw [← hs₂]
    exact hsteps
  · obtain ⟨e2, q2, q3, q4, q5, q6⟩ := id hsm
    have e3 : s₂ = ({ (U.calling g mk a).setFrames s₂.frames with heap := s₂.heap, slotsUsed := s₂.slotsUsed } : State).setVm s₂.vm := by
      have : s₂ = ({ s₂ with vm := (U.calling g mk a).vm } : State).setVm s₂.vm := rfl
      rw [e2] at this
      exact this
    have hf₂ : s₂.frames = .throwing q :: .java g :: U.frames.tail := hend
    have hW' : U.WarmedH s₂.vm := hW₂
    have hs₂ : s₂ = ((({ U with heap := s₂.heap, slotsUsed := s₂.slotsUsed } : State).setVm s₂.vm).setTop g).pushFrame (.throwing q) := by
      refine e3.trans ?_
      rw [hf₂, State.calling_eq h.top, State.setFrames_setFrames, State.pushFrame, State.frames_setTop _ hr', State.setTop_of_frames _ hr', State.setFrames_setFrames, hr]
      rfl
    have hsame : U.sameButNew ({ U with heap := s₂.heap, slotsUsed := s₂.slotsUsed } : State) L mc ms := by
      refine ⟨?_, q2, q3, q4, q5, q6⟩
      obtain ⟨t, ht, -⟩ := State.frames_cons hr
      show ({ U with heap := s₂.heap, slotsUsed := s₂.slotsUsed } : State) = { U.setFrames U.frames with heap := s₂.heap, slotsUsed := s₂.slotsUsed }
      rw [State.setFrames_self ht]
    subst hg
    refine Or.inr ⟨q, ⟨(({ U with heap := s₂.heap, slotsUsed := s₂.slotsUsed } : State).setVm s₂.vm), Ls ++ L, c0 + mc, s0 + ms⟩,
      ⟨X.admits, X.cas, X.clock, X.frames, X.room, X.hears, X.method, X.code, (X.here.setHeapUsed s₂.heap s₂.slotsUsed).setVm hW'.alike, X.tail, State.WarmedH.trans X.warmed hW', X.limits, X.bytes, X.same.trans (hsame.setVm s.vm)⟩,
      ⟨g, mk, s₂, L, E, ce, rfl, rfl, hx, hce, hcv, hcl, rfl, hL, rfl, rfl⟩, ?_⟩
    show Steps p.tables e below _ (((({ U with heap := s₂.heap, slotsUsed := s₂.slotsUsed } : State).setVm s₂.vm).setTop g).pushFrame (.throwing q))
    rw [← hs₂]
    exact hsteps
end Payer
section Calls
variable {p : Program} {l : Launch} {e : Env} {R : Room} {s : State} {m : MethodId} {args : Array Value} {below : List Frame} {meth : Method} {c : Code} {T : State} {locs : List Loc} {cells slots : Nat}
theorem vx_callV (X : Stand p l e R s m args below meth c T locs cells slots) (hexec : p.tables.exec = Jvm.exec) {own C : String} {index : Nat} {y : MethodName} {bytes : ByteArray} {maxL : Nat} {ret : Option FieldType}
    (hown : s.vm.findClass own = some m.cls) (hlink : (Cond.methodLink own index y).before args s = true) (hinst : (Cond.instanceMethod y).before args s = true) (hsel : (Cond.selects C y y).before args s = true)
    (hcode : (Cond.code y bytes maxL ret).before args s = true) (hy : y.cls ≠ "java/lang/invoke/MethodHandle" ∧ y.cls ≠ "java/lang/invoke/VarHandle")
    {W9 : Nat} {Pre : Pt → Array Value → Prop} {Post : Pt → Array Value → Option Value → Pt → Prop} {PostX : Pt → Array Value → Addr → Pt → Prop} (hK : vx_Back l R p e below s args y 3 W9 Pre Post PostX)
    {b : Addr} {cellB : Cell} (hcell : T.heap[b]? = some cellB) (hobj : cellB.vm.isStatics = false) (hcls : s.vm.findClass C = some cellB.cls)
    {g : JFrame} (hg : g.method = m) (hsize : g.locals.size = c.maxLocals) {argsL rest : List Value} (hlen : ∀ sig, parseMethodDescriptor y.desc = some sig → argsL.length = sig.parameters.length)
    (hstack : g.stack = argsL.reverse ++ .ref b :: rest) (hW : 2 * g.monitorRoom + (rest.map fun v => v.category).sum ≤ W9) (hdg : decode c.code g.pc = .ok (.invokevirtual index, 3))
    (hpre : ∀ vm₁, s.WarmedH vm₁ → Pre ⟨T.setVm vm₁, locs, cells, slots⟩ (Value.ref b :: argsL).toArray) :
    (∃ (v : Option Value) (vm₁ : Vm) (B : Pt), s.WarmedH vm₁ ∧ Stand p l e R s m args below meth c B.U B.locs B.cells B.slots ∧ Post ⟨T.setVm vm₁, locs, cells, slots⟩ (Value.ref b :: argsL).toArray v B ∧
      ∀ target, Steps p.tables e below (B.U.setTop { g with pc := g.pc + 3, stack := v.toList ++ rest }) target → Steps p.tables e below (T.setTop g) target) ∨
    (∃ (q : Addr) (vm₁ : Vm) (B : Pt), s.WarmedH vm₁ ∧ Stand p l e R s m args below meth c B.U B.locs B.cells B.slots ∧ PostX ⟨T.setVm vm₁, locs, cells, slots⟩ (Value.ref b :: argsL).toArray q B ∧
      Steps p.tables e below (T.setTop g) ((B.U.setTop { g with stack := rest }).pushFrame (.throwing q))) := by
  obtain ⟨mk, methM, hnamed, hmethM, hstM, habM⟩ := Cond.instanceMethod_spec hinst
  obtain ⟨methM', cM, hmethM', -, -, -, -, -, -, hsigM⟩ := Cond.code_spec hnamed hcode
  cases hmethM.symm.trans hmethM'
  obtain ⟨c2, r2, m2, q1, q2, q3, q4, kP, hkP, hkPi⟩ := Cond.selects_spec hsel
  cases hcls.symm.trans q1
  cases (State.methodFound?_of_named hnamed hy).symm.trans q2
  cases hnamed.symm.trans q3
  have hselP : selectMethod e.platform s.vm cellB.cls mk = .method mk := by rw [Launch.admits_selectMethod X.admits]; exact q4
  obtain ⟨vm₁, X₁, hstep₁⟩ := X.invokevirtual hexec hown hlink hnamed hmethM hstM hkP hkPi hy (a := b) (cell := cellB) hcell
    (fun z h => by rw [h] at hobj; cases hobj) hselP hmethM habM hkP hkPi (g := g) hg (argsL := argsL) (rest := rest) (hlen _ hsigM) hstack hdg
  rcases hK m meth c ⟨T.setVm vm₁, locs, cells, slots⟩ { g with stack := rest } (.invokevirtual index) mk (Value.ref b :: argsL).toArray X₁ hg hsize hdg hW (X₁.named hnamed) (hpre vm₁ X₁.warmed) with ⟨v, B, X', hpost, hsteps⟩ | ⟨q, B, X', hpost, hsteps⟩
  · exact Or.inl ⟨v, vm₁, B, X₁.warmed, X', hpost, fun target h => hstep₁ _ fun acts => by rw [doInvoke_state]; exact hsteps.trans h⟩
  · exact Or.inr ⟨q, vm₁, B, X₁.warmed, X', hpost, hstep₁ _ fun acts => by rw [doInvoke_state]; exact hsteps⟩
theorem vx_callS (X : Stand p l e R s m args below meth c T locs cells slots) (hexec : p.tables.exec = Jvm.exec) {own : String} {index : Nat} {y : MethodName} {bytes : ByteArray} {maxL : Nat} {ret : Option FieldType}
    (hown : s.vm.findClass own = some m.cls) (hlink : (Cond.methodLink own index y).before args s = true) (hstat : (Cond.static y).before args s = true) (hinit : (Cond.initialized y.cls).before args s = true)
    (hcode : (Cond.code y bytes maxL ret).before args s = true) (hy : y.cls ≠ "java/lang/invoke/MethodHandle" ∧ y.cls ≠ "java/lang/invoke/VarHandle")
    {W9 : Nat} {Pre : Pt → Array Value → Prop} {Post : Pt → Array Value → Option Value → Pt → Prop} {PostX : Pt → Array Value → Addr → Pt → Prop} (hK : vx_Back l R p e below s args y 3 W9 Pre Post PostX)
    {g : JFrame} (hg : g.method = m) (hsize : g.locals.size = c.maxLocals) {argsL rest : List Value} (hlen : ∀ sig, parseMethodDescriptor y.desc = some sig → argsL.length = sig.parameters.length)
    (hstack : g.stack = argsL.reverse ++ rest) (hW : 2 * g.monitorRoom + (rest.map fun v => v.category).sum ≤ W9) (hdg : decode c.code g.pc = .ok (.invokestatic index, 3))
    (hpre : ∀ vm₁, s.WarmedH vm₁ → Pre ⟨T.setVm vm₁, locs, cells, slots⟩ argsL.toArray) :
    (∃ (v : Option Value) (vm₁ : Vm) (B : Pt), s.WarmedH vm₁ ∧ Stand p l e R s m args below meth c B.U B.locs B.cells B.slots ∧ Post ⟨T.setVm vm₁, locs, cells, slots⟩ argsL.toArray v B ∧
      ∀ target, Steps p.tables e below (B.U.setTop { g with pc := g.pc + 3, stack := v.toList ++ rest }) target → Steps p.tables e below (T.setTop g) target) ∨
    (∃ (q : Addr) (vm₁ : Vm) (B : Pt), s.WarmedH vm₁ ∧ Stand p l e R s m args below meth c B.U B.locs B.cells B.slots ∧ PostX ⟨T.setVm vm₁, locs, cells, slots⟩ argsL.toArray q B ∧
      Steps p.tables e below (T.setTop g) ((B.U.setTop { g with stack := rest }).pushFrame (.throwing q))) := by
  obtain ⟨mk, hnamed⟩ := Cond.code_named hcode
  obtain ⟨methM, cM, hmethM, -, -, -, -, -, -, hsigM⟩ := Cond.code_spec hnamed hcode
  have hstatic : methM.isStatic = true := Cond.static_spec hnamed hmethM hstat
  obtain ⟨kP, hkP, -⟩ := className_of_methodNamed hnamed
  have hinitP : kP.init = .initialized := Cond.initialized_spec (findClass_of_methodNamed hnamed) hkP hinit
  obtain ⟨vm₁, X₁, hstep₁⟩ := X.invokestatic hexec hown hlink hnamed hmethM hstatic hkP hinitP hy (g := g) hg (argsL := argsL) (rest := rest) (hlen _ hsigM) hstack hdg
  rcases hK m meth c ⟨T.setVm vm₁, locs, cells, slots⟩ { g with stack := rest } (.invokestatic index) mk argsL.toArray X₁ hg hsize hdg hW (X₁.named hnamed) (hpre vm₁ X₁.warmed) with ⟨v, B, X', hpost, hsteps⟩ | ⟨q, B, X', hpost, hsteps⟩
  · exact Or.inl ⟨v, vm₁, B, X₁.warmed, X', hpost, fun target h => hstep₁ _ fun acts => by rw [doInvoke_state]; exact hsteps.trans h⟩
  · exact Or.inr ⟨q, vm₁, B, X₁.warmed, X', hpost, hstep₁ _ fun acts => by rw [doInvoke_state]; exact hsteps⟩
end Calls
theorem vx_cls {s : State} {T : State} {vm₁ : Vm} {E : String} {k : ClassId} (hW : s.WarmedH vm₁) (h : (T.setVm vm₁).vm.findClass E = some k) : s.vm.findClass E = some k := by
  have h1 : vm₁.findClass E = some k := h
  rw [hW.alike.findClass] at h1
  exact h1
/-- the method's frame g, with q thrown over it -/
def vx_W (p : Program) (l : Launch) (e : Env) (R : Room) (s : State) (m : MethodId) (args : Array Value) (below : List Frame) (meth : Method) (c : Code) (H : Heap) (locs : List Loc) (cells slots : Nat) (Q : State → Prop) (g : JFrame) (q : Addr) : Prop :=
  ∀ T : State, T.heap = H → Stand p l e R s m args below meth c T locs cells slots → ∃ t, Steps p.tables e below ((T.setTop g).pushFrame (.throwing q)) t ∧ Q t
def vx_Run (p : Program) (l : Launch) (e : Env) (R : Room) (s : State) (m : MethodId) (args : Array Value) (below : List Frame) (meth : Method) (c : Code) (H : Heap) (locs : List Loc) (cells slots mc ms : Nat) (g : JFrame) (rest : List Value) (Qa : State → Outcome → State → Prop) (XC : String → State → State → Prop) (free : Addr → Prop) : Prop :=
  ∀ T : State, T.heap = H → Stand p l e R s m args below meth c T locs cells slots →
    (∃ (v : Option Value) (st₀ t T' : State) (L : List Loc), st₀.heap = H ∧ Stand p l e R s m args below meth c T' (locs ++ L) (cells + mc) (slots + ms) ∧ (∀ q ∈ L, free q.base) ∧ T'.heap = t.heap ∧ T'.vm = t.vm ∧ Qa st₀ (.returned v) t ∧
      Goes p e below T g T' { g with pc := g.pc + 3, stack := v.toList ++ rest }) ∨
    (∃ (q : Addr) (st₀ t T' : State) (L : List Loc) (E : String) (ce : Cell), st₀.heap = H ∧ Stand p l e R s m args below meth c T' (locs ++ L) (cells + mc) (slots + ms) ∧ (∀ z ∈ L, free z.base) ∧ T'.heap = t.heap ∧ T'.vm = t.vm ∧ XC E st₀ t ∧ t.heap[q]? = some ce ∧ ce.vm = .none ∧ s.vm.findClass E = some ce.cls ∧
      Steps p.tables e below (T.setTop g) ((T'.setTop { g with stack := rest }).pushFrame (.throwing q)))
def vx_X {S : Type} (px : S → Prop) (B : String → S → State → Prop) (A : Nat → Prop) : String → State → State → Prop := fun E st t => ∃ u : S, px u ∧ B E u t ∧ va_F A st t
section Runs
variable {p : Program} {l : Launch} {e : Env} {R : Room} {s : State} {m : MethodId} {args : Array Value} {below : List Frame} {meth : Method} {c : Code} {H : Heap} {locs : List Loc} {cells slots : Nat}
variable {y : MethodName} {bytes cc : ByteArray} {maxL nL mc ms n index : Nat} {ret : Option FieldType} {ws : List Cond} {rm : Room} {Pc : Array Value → State → Prop} {Qc : Array Value → State → Outcome → State → Prop} {XC : String → State → State → Prop} {free : Addr → Prop} {Ts : List Cond} {own C : String} {b : Addr} {As rest : List Value} {g : JFrame}
theorem vx_callBack (cb : CallB R s args own index y bytes maxL ret ws rm mc ms n) (hM : vx_Met l y ws rm Pc Qc XC mc ms free) (hbl : FrameBlind Pc) : vx_Back l R p e below s args y 3 8 (PreOf R mc ms Pc) (PostOf Qc mc ms free) (vx_Post XC mc ms free) := by
  obtain ⟨hrc, hrs, hfr, hlo, hws, hcw, -, hini, -⟩ := cb
  exact vx_back (bytes := bytes) (maxL := maxL) (ret := ret) hM hbl hrc hrs hfr hlo hws hcw (fun a' U hW => word_at hW (Or.inl (by first | rfl | simp [Cond.onTables, Cond.keeps, Cond.steady])) hini)
theorem vx_runV (S : CallFix p m c cc nL s args Ts own) (hM : vx_Met l y ws rm Pc Qc XC mc ms free) (cw : CallW R s args own C index y bytes maxL ret ws rm mc ms n) (hp : PreV s H C b Pc As)
    (hg : g.method = m) (hn : As.length = n) (hsize : g.locals.size = nL) (hstack : g.stack = As.reverse ++ .ref b :: rest) (hW : 2 * g.monitorRoom + (rest.map fun v => v.category).sum ≤ 8) (hdg : decode cc g.pc = .ok (.invokevirtual index, 3)) (hf : cells + mc ≤ R.cells ∧ slots + ms ≤ R.slots) :
    vx_Run p l e R s m args below meth c H locs cells slots mc ms g rest (Qc (Value.ref b :: As).toArray) XC free := by
  have hK : vx_Back l R p e below s args y 3 8 (PreOf R mc ms Pc) (PostOf Qc mc ms free) (vx_Post XC mc ms free) := vx_callBack cw.1 hM hp.1
  obtain ⟨⟨-, -, -, -, -, -, hcode, -, hy, hlen, hl⟩, hin, hse⟩ := cw
  obtain ⟨hx, hb, hml, ho, -⟩ := S
  obtain ⟨-, ⟨cellB, hcB, hoB, hclB⟩, hPc⟩ := hp
  intro T hT X
  rcases vx_callV X hx (C := C) (bytes := bytes) (maxL := maxL) (ret := ret) ho hl hin hse hcode hy hK (by rw [hT]; exact hcB) hoB hclB hg (hsize.trans hml.symm) (argsL := As) (rest := rest) (fun sig h => hn.trans (hlen sig h)) hstack hW (by rw [hb]; exact hdg)
    (fun vm₁ hW₁ => ⟨hf.1, hf.2, hPc (T.setVm vm₁) hT hW₁⟩) with ⟨v, vm₁, ⟨U', l2, c2, s2⟩, hW₁, X', ⟨g', mk, t, L, e1, e2, hq, h1, hL, h2, h3⟩, st⟩ | ⟨q, vm₁, ⟨U', l2, c2, s2⟩, hW₁, X', ⟨g', mk, t, L, E, ce, e1, e2, hq, hce, hcv, hcl, h1, hL, h2, h3⟩, st⟩
  · dsimp only [Pt.U, Pt.locs, Pt.cells, Pt.slots] at X' e1 e2 h1 h2 h3 st
    subst h1; subst h2; subst h3
    exact Or.inl ⟨v, (T.setVm vm₁).calling g' mk (Value.ref b :: As).toArray, t, U', L, hT, X', hL, e1, e2, hq, st⟩
  · dsimp only [Pt.U, Pt.locs, Pt.cells, Pt.slots] at X' e1 e2 h1 h2 h3 st hcl
    subst h1; subst h2; subst h3
    exact Or.inr ⟨q, (T.setVm vm₁).calling g' mk (Value.ref b :: As).toArray, t, U', L, E, ce, hT, X', hL, e1, e2, hq, hce, hcv, vx_cls hW₁ hcl, st⟩
theorem vx_runS (S : CallFix p m c cc nL s args Ts own) (hM : vx_Met l y ws rm Pc Qc XC mc ms free) (cw : CallB R s args own index y bytes maxL ret ws rm mc ms n ∧ (Cond.static y).before args s = true) (hp : PreS s H Pc As)
    (hg : g.method = m) (hn : As.length = n) (hsize : g.locals.size = nL) (hstack : g.stack = As.reverse ++ rest) (hW : 2 * g.monitorRoom + (rest.map fun v => v.category).sum ≤ 8) (hdg : decode cc g.pc = .ok (.invokestatic index, 3)) (hf : cells + mc ≤ R.cells ∧ slots + ms ≤ R.slots) :
    vx_Run p l e R s m args below meth c H locs cells slots mc ms g rest (Qc As.toArray) XC free := by
  have hK : vx_Back l R p e below s args y 3 8 (PreOf R mc ms Pc) (PostOf Qc mc ms free) (vx_Post XC mc ms free) := vx_callBack cw.1 hM hp.1
  obtain ⟨⟨-, -, -, -, -, -, hcode, hini, hy, hlen, hl⟩, hstt⟩ := cw
  obtain ⟨hx, hb, hml, ho, -⟩ := S
  intro T hT X
  rcases vx_callS X hx (bytes := bytes) (maxL := maxL) (ret := ret) ho hl hstt hini hcode hy hK hg (hsize.trans hml.symm) (argsL := As) (rest := rest) (fun sig h => hn.trans (hlen sig h)) hstack hW (by rw [hb]; exact hdg)
    (fun vm₁ hW₁ => ⟨hf.1, hf.2, hp.2 (T.setVm vm₁) hT hW₁⟩) with ⟨v, vm₁, ⟨U', l2, c2, s2⟩, hW₁, X', ⟨g', mk, t, L, e1, e2, hq, h1, hL, h2, h3⟩, st⟩ | ⟨q, vm₁, ⟨U', l2, c2, s2⟩, hW₁, X', ⟨g', mk, t, L, E, ce, e1, e2, hq, hce, hcv, hcl, h1, hL, h2, h3⟩, st⟩
  · dsimp only [Pt.U, Pt.locs, Pt.cells, Pt.slots] at X' e1 e2 h1 h2 h3 st
    subst h1; subst h2; subst h3
    exact Or.inl ⟨v, (T.setVm vm₁).calling g' mk As.toArray, t, U', L, hT, X', hL, e1, e2, hq, st⟩
  · dsimp only [Pt.U, Pt.locs, Pt.cells, Pt.slots] at X' e1 e2 h1 h2 h3 st hcl
    subst h1; subst h2; subst h3
    exact Or.inr ⟨q, (T.setVm vm₁).calling g' mk As.toArray, t, U', L, E, ce, hT, X', hL, e1, e2, hq, hce, hcv, vx_cls hW₁ hcl, st⟩
end Runs
section Rows
variable {p : Program} {l : Launch} {e : Env} {R : Room} {s : State} {m : MethodId} {args : Array Value} {below : List Frame} {meth : Method} {c : Code} {H : Heap} {locs : List Loc} {cells slots : Nat} {Q : State → Prop}
variable {mc ms : Nat} {free : Addr → Prop} {A0 A1 : Nat → Prop} {H0 : Heap} {a : Array Value} {pc : Nat} {ls : Array Slot} {st0 rest : List Value}
theorem vx_keep {st₀ t T' : State} {L : List Loc} (h0 : st₀.heap = H) (e1 : T'.heap = t.heap) (hS : va_S A0 H0 H locs) (hA : ∀ q, q < H.size → A1 q → A0 q) (hf : ∀ q, free q → A0 q) (hL : ∀ q ∈ L, free q.base) (hF : va_F A1 st₀ t) :
    H.size ≤ T'.heap.size ∧ (∀ q : Nat, q < H.size → ¬ A1 q → T'.heap[q]? = H[q]?) ∧ va_S A0 H0 T'.heap (locs ++ L) := by
  obtain ⟨hz, hk⟩ := hF
  rw [h0] at hz hk
  exact ⟨by rw [e1]; exact hz, fun q h1 h2 => by rw [e1]; exact hk q h1 h2,
    ⟨Nat.le_trans hS.1 (by rw [e1]; exact hz), fun q h1 h2 => by rw [e1, hk q (Nat.lt_of_lt_of_le h1 hS.1) (fun z => h2 (hA q (Nat.lt_of_lt_of_le h1 hS.1) z))]; exact hS.2.1 q h1 h2, fun q hq => by
      rcases List.mem_append.mp hq with h | h
      · exact hS.2.2 q h
      · exact hf _ (hL q h)⟩⟩
theorem vx_calli {S SX : Type} {post : Int32 → S → Prop} {px : SX → Prop} {B : S → State → Prop} {BX : String → SX → State → Prop} {AX : Nat → Prop} (hr : vx_Run p l e R s m args below meth c H locs cells slots mc ms (F0 m pc ls st0) rest (va_Qi post B A1 a) (vx_X px BX AX) free) (hS : va_S A0 H0 H locs) (hA : ∀ q, q < H.size → A1 q → A0 q) (hf : ∀ q, free q → A0 q) (hAX : ∀ q, q < H.size → AX q → A0 q)
    (kx : ∀ (E : String) (ce : Cell) (q9 : Addr) (u : SX) (t : State) (H1 : Heap) (locs1 : List Loc), t.heap = H1 → s.vm.Alike t.vm → px u → BX E u t → H.size ≤ H1.size → (∀ q : Nat, q < H.size → ¬ AX q → H1[q]? = H[q]?) → va_S A0 H0 H1 locs1 → H1[q9]? = some ce → ce.vm = .none → s.vm.findClass E = some ce.cls → vx_W p l e R s m args below meth c H1 locs1 (cells + mc) (slots + ms) Q (F0 m pc ls rest) q9)
    (kk : ∀ (r : Int32) (u : S) (t : State) (H1 : Heap) (locs1 : List Loc), t.heap = H1 → s.vm.Alike t.vm → post r u → B u t → H.size ≤ H1.size → (∀ q : Nat, q < H.size → ¬ A1 q → H1[q]? = H[q]?) → va_S A0 H0 H1 locs1 → W p l e R s m args below meth c H1 locs1 (cells + mc) (slots + ms) Q (F0 m (pc + 3) ls (.int r :: rest))) : W p l e R s m args below meth c H locs cells slots Q (F0 m pc ls st0) := by
  intro T hT X
  rcases hr T hT X with ⟨v, st₀, t, T', L, h0, X', hL, e1, e2, ⟨⟨r, u, hv, hp, hb⟩, hF⟩, st⟩ | ⟨q, st₀, t, T', L, E, ce, h0, X', hL, e1, e2, ⟨u, hp, hb, hF⟩, hce, hcv, hcl, st⟩
  · cases hv
    obtain ⟨k1, k2, k3⟩ := vx_keep h0 e1 hS hA hf hL hF
    obtain ⟨t2, a1, b1⟩ := kk r u t T'.heap (locs ++ L) e1.symm (by rw [← e2]; exact X'.warmed.alike) hp hb k1 k2 k3 T' rfl X'
    exact ⟨t2, st t2 a1, b1⟩
  · obtain ⟨k1, k2, k3⟩ := vx_keep h0 e1 hS hAX hf hL hF
    obtain ⟨t2, a1, b1⟩ := kx E ce q u t T'.heap (locs ++ L) e1.symm (by rw [← e2]; exact X'.warmed.alike) hp hb k1 k2 k3 (by rw [e1]; exact hce) hcv hcl T' rfl X'
    exact ⟨t2, st.trans a1, b1⟩
theorem vx_calll {S SX : Type} {post : Int64 → S → Prop} {px : SX → Prop} {B : S → State → Prop} {BX : String → SX → State → Prop} {AX : Nat → Prop} (hr : vx_Run p l e R s m args below meth c H locs cells slots mc ms (F0 m pc ls st0) rest (va_Ql post B A1 a) (vx_X px BX AX) free) (hS : va_S A0 H0 H locs) (hA : ∀ q, q < H.size → A1 q → A0 q) (hf : ∀ q, free q → A0 q) (hAX : ∀ q, q < H.size → AX q → A0 q)
    (kx : ∀ (E : String) (ce : Cell) (q9 : Addr) (u : SX) (t : State) (H1 : Heap) (locs1 : List Loc), t.heap = H1 → s.vm.Alike t.vm → px u → BX E u t → H.size ≤ H1.size → (∀ q : Nat, q < H.size → ¬ AX q → H1[q]? = H[q]?) → va_S A0 H0 H1 locs1 → H1[q9]? = some ce → ce.vm = .none → s.vm.findClass E = some ce.cls → vx_W p l e R s m args below meth c H1 locs1 (cells + mc) (slots + ms) Q (F0 m pc ls rest) q9)
    (kk : ∀ (r : Int64) (u : S) (t : State) (H1 : Heap) (locs1 : List Loc), t.heap = H1 → s.vm.Alike t.vm → post r u → B u t → H.size ≤ H1.size → (∀ q : Nat, q < H.size → ¬ A1 q → H1[q]? = H[q]?) → va_S A0 H0 H1 locs1 → W p l e R s m args below meth c H1 locs1 (cells + mc) (slots + ms) Q (F0 m (pc + 3) ls (.long r :: rest))) : W p l e R s m args below meth c H locs cells slots Q (F0 m pc ls st0) := by
  intro T hT X
  rcases hr T hT X with ⟨v, st₀, t, T', L, h0, X', hL, e1, e2, ⟨⟨r, u, hv, hp, hb⟩, hF⟩, st⟩ | ⟨q, st₀, t, T', L, E, ce, h0, X', hL, e1, e2, ⟨u, hp, hb, hF⟩, hce, hcv, hcl, st⟩
  · cases hv
    obtain ⟨k1, k2, k3⟩ := vx_keep h0 e1 hS hA hf hL hF
    obtain ⟨t2, a1, b1⟩ := kk r u t T'.heap (locs ++ L) e1.symm (by rw [← e2]; exact X'.warmed.alike) hp hb k1 k2 k3 T' rfl X'
    exact ⟨t2, st t2 a1, b1⟩
  · obtain ⟨k1, k2, k3⟩ := vx_keep h0 e1 hS hAX hf hL hF
    obtain ⟨t2, a1, b1⟩ := kx E ce q u t T'.heap (locs ++ L) e1.symm (by rw [← e2]; exact X'.warmed.alike) hp hb k1 k2 k3 (by rw [e1]; exact hce) hcv hcl T' rfl X'
    exact ⟨t2, st.trans a1, b1⟩
theorem vx_callf {S SX : Type} {post : UInt32 → S → Prop} {px : SX → Prop} {B : S → State → Prop} {BX : String → SX → State → Prop} {AX : Nat → Prop} (hr : vx_Run p l e R s m args below meth c H locs cells slots mc ms (F0 m pc ls st0) rest (va_Qf post B A1 a) (vx_X px BX AX) free) (hS : va_S A0 H0 H locs) (hA : ∀ q, q < H.size → A1 q → A0 q) (hf : ∀ q, free q → A0 q) (hAX : ∀ q, q < H.size → AX q → A0 q)
    (kx : ∀ (E : String) (ce : Cell) (q9 : Addr) (u : SX) (t : State) (H1 : Heap) (locs1 : List Loc), t.heap = H1 → s.vm.Alike t.vm → px u → BX E u t → H.size ≤ H1.size → (∀ q : Nat, q < H.size → ¬ AX q → H1[q]? = H[q]?) → va_S A0 H0 H1 locs1 → H1[q9]? = some ce → ce.vm = .none → s.vm.findClass E = some ce.cls → vx_W p l e R s m args below meth c H1 locs1 (cells + mc) (slots + ms) Q (F0 m pc ls rest) q9)
    (kk : ∀ (r : UInt32) (u : S) (t : State) (H1 : Heap) (locs1 : List Loc), t.heap = H1 → s.vm.Alike t.vm → post r u → B u t → H.size ≤ H1.size → (∀ q : Nat, q < H.size → ¬ A1 q → H1[q]? = H[q]?) → va_S A0 H0 H1 locs1 → W p l e R s m args below meth c H1 locs1 (cells + mc) (slots + ms) Q (F0 m (pc + 3) ls (.float r :: rest))) : W p l e R s m args below meth c H locs cells slots Q (F0 m pc ls st0) := by
  intro T hT X
  rcases hr T hT X with ⟨v, st₀, t, T', L, h0, X', hL, e1, e2, ⟨⟨r, u, hv, hp, hb⟩, hF⟩, st⟩ | ⟨q, st₀, t, T', L, E, ce, h0, X', hL, e1, e2, ⟨u, hp, hb, hF⟩, hce, hcv, hcl, st⟩
  · cases hv
    obtain ⟨k1, k2, k3⟩ := vx_keep h0 e1 hS hA hf hL hF
    obtain ⟨t2, a1, b1⟩ := kk r u t T'.heap (locs ++ L) e1.symm (by rw [← e2]; exact X'.warmed.alike) hp hb k1 k2 k3 T' rfl X'
    exact ⟨t2, st t2 a1, b1⟩
  · obtain ⟨k1, k2, k3⟩ := vx_keep h0 e1 hS hAX hf hL hF
    obtain ⟨t2, a1, b1⟩ := kx E ce q u t T'.heap (locs ++ L) e1.symm (by rw [← e2]; exact X'.warmed.alike) hp hb k1 k2 k3 (by rw [e1]; exact hce) hcv hcl T' rfl X'
    exact ⟨t2, st.trans a1, b1⟩
theorem vx_calld {S SX : Type} {post : UInt64 → S → Prop} {px : SX → Prop} {B : S → State → Prop} {BX : String → SX → State → Prop} {AX : Nat → Prop} (hr : vx_Run p l e R s m args below meth c H locs cells slots mc ms (F0 m pc ls st0) rest (va_Qd post B A1 a) (vx_X px BX AX) free) (hS : va_S A0 H0 H locs) (hA : ∀ q, q < H.size → A1 q → A0 q) (hf : ∀ q, free q → A0 q) (hAX : ∀ q, q < H.size → AX q → A0 q)
    (kx : ∀ (E : String) (ce : Cell) (q9 : Addr) (u : SX) (t : State) (H1 : Heap) (locs1 : List Loc), t.heap = H1 → s.vm.Alike t.vm → px u → BX E u t → H.size ≤ H1.size → (∀ q : Nat, q < H.size → ¬ AX q → H1[q]? = H[q]?) → va_S A0 H0 H1 locs1 → H1[q9]? = some ce → ce.vm = .none → s.vm.findClass E = some ce.cls → vx_W p l e R s m args below meth c H1 locs1 (cells + mc) (slots + ms) Q (F0 m pc ls rest) q9)
    (kk : ∀ (r : UInt64) (u : S) (t : State) (H1 : Heap) (locs1 : List Loc), t.heap = H1 → s.vm.Alike t.vm → post r u → B u t → H.size ≤ H1.size → (∀ q : Nat, q < H.size → ¬ A1 q → H1[q]? = H[q]?) → va_S A0 H0 H1 locs1 → W p l e R s m args below meth c H1 locs1 (cells + mc) (slots + ms) Q (F0 m (pc + 3) ls (.double r :: rest))) : W p l e R s m args below meth c H locs cells slots Q (F0 m pc ls st0) := by
  intro T hT X
  rcases hr T hT X with ⟨v, st₀, t, T', L, h0, X', hL, e1, e2, ⟨⟨r, u, hv, hp, hb⟩, hF⟩, st⟩ | ⟨q, st₀, t, T', L, E, ce, h0, X', hL, e1, e2, ⟨u, hp, hb, hF⟩, hce, hcv, hcl, st⟩
  · cases hv
    obtain ⟨k1, k2, k3⟩ := vx_keep h0 e1 hS hA hf hL hF
    obtain ⟨t2, a1, b1⟩ := kk r u t T'.heap (locs ++ L) e1.symm (by rw [← e2]; exact X'.warmed.alike) hp hb k1 k2 k3 T' rfl X'
    exact ⟨t2, st t2 a1, b1⟩
  · obtain ⟨k1, k2, k3⟩ := vx_keep h0 e1 hS hAX hf hL hF
    obtain ⟨t2, a1, b1⟩ := kx E ce q u t T'.heap (locs ++ L) e1.symm (by rw [← e2]; exact X'.warmed.alike) hp hb k1 k2 k3 (by rw [e1]; exact hce) hcv hcl T' rfl X'
    exact ⟨t2, st.trans a1, b1⟩
theorem vx_callv {S SX : Type} {post : S → Prop} {px : SX → Prop} {B : S → State → Prop} {BX : String → SX → State → Prop} {AX : Nat → Prop} (hr : vx_Run p l e R s m args below meth c H locs cells slots mc ms (F0 m pc ls st0) rest (va_Qv post B A1 a) (vx_X px BX AX) free) (hS : va_S A0 H0 H locs) (hA : ∀ q, q < H.size → A1 q → A0 q) (hf : ∀ q, free q → A0 q) (hAX : ∀ q, q < H.size → AX q → A0 q)
    (kx : ∀ (E : String) (ce : Cell) (q9 : Addr) (u : SX) (t : State) (H1 : Heap) (locs1 : List Loc), t.heap = H1 → s.vm.Alike t.vm → px u → BX E u t → H.size ≤ H1.size → (∀ q : Nat, q < H.size → ¬ AX q → H1[q]? = H[q]?) → va_S A0 H0 H1 locs1 → H1[q9]? = some ce → ce.vm = .none → s.vm.findClass E = some ce.cls → vx_W p l e R s m args below meth c H1 locs1 (cells + mc) (slots + ms) Q (F0 m pc ls rest) q9)
    (kk : ∀ (u : S) (t : State) (H1 : Heap) (locs1 : List Loc), t.heap = H1 → s.vm.Alike t.vm → post u → B u t → H.size ≤ H1.size → (∀ q : Nat, q < H.size → ¬ A1 q → H1[q]? = H[q]?) → va_S A0 H0 H1 locs1 → W p l e R s m args below meth c H1 locs1 (cells + mc) (slots + ms) Q (F0 m (pc + 3) ls (rest))) : W p l e R s m args below meth c H locs cells slots Q (F0 m pc ls st0) := by
  intro T hT X
  rcases hr T hT X with ⟨v, st₀, t, T', L, h0, X', hL, e1, e2, ⟨⟨u, hv, hp, hb⟩, hF⟩, st⟩ | ⟨q, st₀, t, T', L, E, ce, h0, X', hL, e1, e2, ⟨u, hp, hb, hF⟩, hce, hcv, hcl, st⟩
  · cases hv
    obtain ⟨k1, k2, k3⟩ := vx_keep h0 e1 hS hA hf hL hF
    obtain ⟨t2, a1, b1⟩ := kk u t T'.heap (locs ++ L) e1.symm (by rw [← e2]; exact X'.warmed.alike) hp hb k1 k2 k3 T' rfl X'
    exact ⟨t2, st t2 a1, b1⟩
  · obtain ⟨k1, k2, k3⟩ := vx_keep h0 e1 hS hAX hf hL hF
    obtain ⟨t2, a1, b1⟩ := kx E ce q u t T'.heap (locs ++ L) e1.symm (by rw [← e2]; exact X'.warmed.alike) hp hb k1 k2 k3 (by rw [e1]; exact hce) hcv hcl T' rfl X'
    exact ⟨t2, st.trans a1, b1⟩
/-- caught by the row x of this method's table; the rows ahead don't take it -/
theorem vx_catch {own name : String} {E : String} {ce : Cell} {q : Addr} (hown : s.vm.findClass own = some m.cls) (pre : List ExceptionTableEntry) (x : ExceptionTableEntry) (suf : List ExceptionTableEntry) (hsplit : c.exceptionTable.toList = pre ++ x :: suf)
    (hpass : ∀ z ∈ pre, covers z pc = false ∨ (z.catchType ≠ 0 ∧ ∃ nm : String, (Cond.classLink own z.catchType nm).before args s = true ∧ va_Nc E nm s)) (hx : covers x pc = true) (h0 : x.catchType ≠ 0)
    (hlink : (Cond.classLink own x.catchType name).before args s = true) (hcast : (Cond.castable E name).before args s = true) (hcell : H[q]? = some ce) (hv : ce.vm = .none) (hcl : s.vm.findClass E = some ce.cls)
    (kk : W p l e R s m args below meth c H locs cells slots Q (F0 m x.handlerPc ls [.ref q])) : vx_W p l e R s m args below meth c H locs cells slots Q (F0 m pc ls rest) q := by
  intro T hT X
  have hpl : e.platform.magicAccessors = ({} : Platform).magicAccessors := by rw [X.admits.platform]
  obtain ⟨c3, c4, hc3, hc4, hasg⟩ := Cond.castable_spec hcast
  cases Option.some.inj (hc3.symm.trans hcl)
  obtain ⟨c5, hc5, hcl5⟩ := Cond.classLink_spec hown hlink e.platform hpl
  cases Option.some.inj (hc4.symm.trans hc5)
  obtain ⟨vm', X', st⟩ := X.thenCaughtThrough q (g := F0 m pc ls rest) rfl (Steps.refl _) (by rw [hT]; exact hcell) (by rw [hv]; rfl) (by obtain ⟨k9, h9, -⟩ := Vm.findClass_spec hcl; exact ⟨k9, h9⟩) pre x suf hsplit
    (fun z hz => by
      rcases hpass z hz with h | ⟨hz0, nm, hl1, hn1⟩
      · exact Or.inl h
      · obtain ⟨c6, hc6, hcl6⟩ := Cond.classLink_spec hown hl1 e.platform hpl
        obtain ⟨a8, b8, h1, h2, h3⟩ := hn1
        cases Option.some.inj (h1.symm.trans hcl)
        cases Option.some.inj (h2.symm.trans hc6)
        exact Or.inr ⟨hz0, _, hcl6, h3⟩) hx (Or.inr ⟨h0, c4, hcl5, hasg⟩)
  obtain ⟨t, a1, b1⟩ := kk (T.setVm vm') hT X'
  exact ⟨t, st.trans a1, b1⟩
end Rows
section Ends
variable {p : Program} {l : Launch} {e : Env} {R : Room} {s : State} {m : MethodId} {args : Array Value} {below : List Frame} {meth : Method} {c : Code} {H : Heap} {locs : List Loc} {cells slots : Nat} {Q : State → Prop}
variable {mc ms : Nat} {free : Addr → Prop} {A0 A1 : Nat → Prop} {H0 : Heap} {a : Array Value} {ls : Array Slot} {st0 rest : List Value}
variable {Qc : Array Value → State → Outcome → State → Prop} {XC : String → State → State → Prop}
/-- what a body that may throw owes at its end -/
def vx_MQ (below : List Frame) (Qc : Array Value → State → Outcome → State → Prop) (XC : String → State → State → Prop) (a : Array Value) (s : State) (mc ms : Nat) (free : Addr → Prop) : State → Prop := fun t =>
  ∃ o, t.status = .running ∧ Ended t below o ∧ vx_Q Qc XC mc ms free a s o t
theorem vx_ret {g : JFrame} {mc ms : Nat} (k : W p l e R s m args below meth c H locs cells slots (MQ below Qc args s mc ms free) g) : W p l e R s m args below meth c H locs cells slots (vx_MQ below Qc XC args s mc ms free) g := by
  intro T hT X
  obtain ⟨t, a1, o, b1, b2, b3, b4⟩ := k T hT X
  exact ⟨t, a1, o, b1, b2, Or.inl ⟨b3, b4⟩⟩
/-- not caught here: it goes on to the caller -/
theorem vx_widen {g : JFrame} {q : Addr} {k n : Nat} (h1 : cells ≤ k) (h2 : slots ≤ n) (kk : vx_W p l e R s m args below meth c H locs k n Q g q) : vx_W p l e R s m args below meth c H locs cells slots Q g q := fun T hT X => kk T hT (stand_widen X h1 h2)
theorem vx_out {pc : Nat} {E : String} {ce : Cell} {q : Addr} {mc ms : Nat} (hout : ∀ x ∈ c.exceptionTable.toList, covers x pc = false) (hlocks : meth.locks = false) (hcell : H[q]? = some ce) (hv : ce.vm = .none) (hcl : s.vm.findClass E = some ce.cls)
    (hx : ∀ t : State, t.heap = H → s.vm.Alike t.vm → XC E s t) (hf : ∀ z ∈ locs, free z.base) (hc : cells ≤ mc) (hs : slots ≤ ms) :
    vx_W p l e R s m args below meth c H locs cells slots (vx_MQ below Qc XC args s mc ms free) (F0 m pc ls rest) q := by
  intro T hT X
  obtain ⟨st1, hrun, hend, hW, hsm⟩ := X.leaveThrown q (g := F0 m pc ls rest) rfl rfl rfl hout hlocks
  have hcell9 : (T.setFrames (.throwing q :: below)).heap[q]? = some ce := by
    show T.heap[q]? = some ce
    rw [hT]; exact hcell
  exact ⟨_, st1, .threw q, hrun, hend, Or.inr ⟨q, rfl, E, ce, locs, hx _ hT hW.alike, hcell9, hv, hcl, hW, hsm.mono hc hs, hf⟩⟩
theorem vx_frame {U : State} {k n : Nat} (h : s.sameButNew ({ U with vm := s.vm } : State) locs k n) : s.heap.size ≤ U.heap.size ∧ ∀ q : Nat, q < s.heap.size → (∀ z ∈ locs, z.base ≠ q) → U.heap[q]? = s.heap[q]? := by
  obtain ⟨-, h2, -, -, -, h6⟩ := h
  refine ⟨h2, fun q hq hz => ?_⟩
  obtain ⟨c9, e1, e2, e3, e4⟩ := h6 q _ (Array.getElem?_eq_getElem hq)
  have hs : c9.slots = (s.heap[q]).slots := Array.ext_getElem? fun i => e4 i fun hm => hz _ hm rfl
  have h9 : c9 = s.heap[q] := by
    rw [hs] at e2
    exact e2
  have e5 : U.heap[q]? = some c9 := e1
  rw [e5, h9, Array.getElem?_eq_getElem hq]
/-- the words of a throw but the four that speak of the heap -/
def vx_no (w : Cond) : Bool := decide (w ≠ .isRef (.static Bundle.tN "UNASSIGNED_STACK" Bundle.steD)) && decide (w ≠ .isRef (.static Bundle.tN "SUPPRESSED_SENTINEL" Bundle.listD)) && decide (w ≠ .laysStatic Bundle.tN "UNASSIGNED_STACK" Bundle.steD) && decide (w ≠ .laysStatic Bundle.tN "SUPPRESSED_SENTINEL" Bundle.listD)
def vx_at0 (own : String) (ic : Nat) (X : String) (names : List String) : List Cond := (Bundle.ownAtoms0 own ic X names).filter vx_no
def vx_atS (own : String) (ic : Nat) (X : String) (names : List String) : List Cond := (Bundle.ownAtoms own ic X names).filter vx_no
/-- a word that the tables alone decide, or a good one -/
def vx_ot (w : Cond) : Bool := w.onTables || goodWord w
theorem vx_ot_at {args a' : Array Value} {s U : State} {w : Cond} (hW : s.WarmedH U.vm) (hvm : s.vm = U.vm) (hg : vx_ot w = true) (h : w.before args s = true) : w.before a' U = true := by
  simp only [vx_ot, Bool.or_eq_true] at hg
  rcases hg with hg | hg
  · exact va_tabs hg hvm h
  · exact word_at hW (good_of_word hg) h
/-- a list's words: the good ones out of the method's own list, the others by premises of their own -/
theorem vx_hat {args : Array Value} {s : State} {L B : List Cond} (h1 : ∀ w ∈ L.filter goodWord, w.before args s = true) (h2 : ∀ w ∈ L.filter (fun w => !goodWord w), w ∈ B) (h3 : ∀ w ∈ B, w.before args s = true) : ∀ w ∈ L, w.before args s = true := by
  intro w hw
  by_cases g : goodWord w = true
  · exact h1 w (List.mem_filter.mpr ⟨hw, g⟩)
  · refine h3 w (h2 w (List.mem_filter.mpr ⟨hw, ?_⟩))
    show (!goodWord w) = true
    cases hgw : goodWord w
    · rfl
    · exact absurd hgw g
theorem vx_c {args : Array Value} {s : State} {w : Cond} {B : List Cond} (h : w.before args s = true) (t : ∀ w ∈ B, w.before args s = true) : ∀ w' ∈ w :: B, w'.before args s = true := fun w' h' => (List.mem_cons.mp h').elim (fun e => by rw [e]; exact h) (t w')
theorem vx_n {args : Array Value} {s : State} : ∀ w ∈ ([] : List Cond), w.before args s = true := fun _ h => nomatch h
theorem vx_own {args : Array Value} {s : State} {L : List Cond} (h1 : ∀ w ∈ L.filter vx_no, w.before args s = true)
    (hU : (Cond.isRef (.static Bundle.tN "UNASSIGNED_STACK" Bundle.steD)).before args s = true) (hN : (Cond.isRef (.static Bundle.tN "SUPPRESSED_SENTINEL" Bundle.listD)).before args s = true)
    (lU : (Cond.laysStatic Bundle.tN "UNASSIGNED_STACK" Bundle.steD).before args s = true) (lN : (Cond.laysStatic Bundle.tN "SUPPRESSED_SENTINEL" Bundle.listD).before args s = true) : ∀ w ∈ L, w.before args s = true := by
  intro w hw
  by_cases e1 : w = .isRef (.static Bundle.tN "UNASSIGNED_STACK" Bundle.steD)
  · rw [e1]; exact hU
  · by_cases e2 : w = .isRef (.static Bundle.tN "SUPPRESSED_SENTINEL" Bundle.listD)
    · rw [e2]; exact hN
    · by_cases e3 : w = .laysStatic Bundle.tN "UNASSIGNED_STACK" Bundle.steD
      · rw [e3]; exact lU
      · by_cases e4 : w = .laysStatic Bundle.tN "SUPPRESSED_SENTINEL" Bundle.listD
        · rw [e4]; exact lN
        · exact h1 w (List.mem_filter.mpr ⟨hw, by unfold vx_no; rw [decide_eq_true e1, decide_eq_true e2, decide_eq_true e3, decide_eq_true e4]; rfl⟩)
/-- where a static field lies, its class's statics cell in H -/
def vx_L (C n d : String) (A : Nat → Prop) (U : State) (H : Heap) : Prop := ∃ (c : ClassId) (k : Class) (i : Nat) (f : Field) (a : Nat) (cell : Cell), U.vm.findClass C = some c ∧ U.fieldFound? C n d = some (c, k, i, f) ∧ f.isStatic = true ∧ k.statics = some a ∧ H[a]? = some cell ∧ cell.vm.isStatics = true ∧ cell.cls = c ∧ f.slot < cell.slots.size ∧ k.staticTypes[f.slot]? = some f.type ∧ ¬ A a
theorem vx_L.moved {C n d : String} {A : Nat → Prop} {u U : State} {H : Heap} (hvm : u.vm.Alike U.vm) (h : vx_L C n d A u H) : vx_L C n d A U H := by
  obtain ⟨c, k, i, f, a, cell, h1, h2, h3, h4, h5, h6, h7, h8, h9, h10⟩ := h
  obtain ⟨k', hi', he⟩ := State.fieldFound?_setVm hvm h2
  exact ⟨c, k', i, f, a, cell, by rw [hvm.findClass]; exact h1, hi', h3, by rw [he]; exact h4, h5, h6, h7, h8, by rw [he]; exact h9, h10⟩
theorem vx_L.kept {C n d : String} {A : Nat → Prop} {U : State} {H H1 : Heap} (h : vx_L C n d A U H) (hq : ∀ a : Nat, a < H.size → ¬ A a → H1[a]? = H[a]?) : vx_L C n d A U H1 := by
  obtain ⟨c, k, i, f, a, cell, h1, h2, h3, h4, h5, h6, h7, h8, h9, h10⟩ := h
  exact ⟨c, k, i, f, a, cell, h1, h2, h3, h4, by rw [hq a (Array.getElem?_eq_some_iff.mp h5).1 h10]; exact h5, h6, h7, h8, h9, h10⟩
theorem vx_L.narrow {C n d : String} {A B : Nat → Prop} {U : State} {H : Heap} (h : vx_L C n d A U H) (hAB : ∀ q, B q → A q) : vx_L C n d B U H := by
  obtain ⟨c, k, i, f, a, cell, h1, h2, h3, h4, h5, h6, h7, h8, h9, h10⟩ := h
  exact ⟨c, k, i, f, a, cell, h1, h2, h3, h4, h5, h6, h7, h8, h9, fun z => h10 (hAB _ z)⟩
theorem vx_L.word {C n d : String} {A : Nat → Prop} {s : State} {args : Array Value} (h : vx_L C n d A s s.heap) : (Cond.laysStatic C n d).before args s = true := by
  obtain ⟨c, k, i, f, a, cell, h1, h2, h3, h4, h5, h6, h7, h8, h9, -⟩ := h
  show (Cond.laysStatic C n d).holds args s none s [] = true
  exact Cond.laysStatic_of h1 h2 h3 h4 h5 h6 h7 h8 h9
/-- .. and what it holds: null or some reference -/
def vx_Zq (C n d : String) (A : Nat → Prop) (U : State) (H : Heap) : Prop := va_Zq C n d A U H ∧ vx_L C n d A U H
theorem vx_Zq.moved {C n d : String} {A : Nat → Prop} {u U : State} {H : Heap} (hvm : u.vm.Alike U.vm) (h : vx_Zq C n d A u H) : vx_Zq C n d A U H := ⟨va_Zq.moved hvm h.1, vx_L.moved hvm h.2⟩
theorem vx_Zq.kept {C n d : String} {A : Nat → Prop} {U : State} {H H1 : Heap} (h : vx_Zq C n d A U H) (hq : ∀ a : Nat, a < H.size → ¬ A a → H1[a]? = H[a]?) : vx_Zq C n d A U H1 := ⟨va_Zq.kept h.1 hq, vx_L.kept h.2 hq⟩
theorem vx_Zq.narrow {C n d : String} {A B : Nat → Prop} {U : State} {H : Heap} (h : vx_Zq C n d A U H) (hAB : ∀ q, B q → A q) : vx_Zq C n d B U H := ⟨va_Zq.narrow h.1 hAB, vx_L.narrow h.2 hAB⟩
theorem vx_Zqof {args : Array Value} {s : State} {C n d : String} {A : Nat → Prop} (hl : (Cond.laysStatic C n d).before args s = true) (hini : (Cond.initialized C).before args s = true) (h : (Cond.isRef (.static C n d)).before args s = true) (hA : ∀ a : Nat, a < s.heap.size → ¬ A a) : vx_Zq C n d A s s.heap := by
  refine ⟨va_Zqof hl hini h hA, ?_⟩
  obtain ⟨c, k, i, f, a, cell, h1, h2, h3, h4, h5, h6, h7, h8, h9⟩ := Cond.laysStatic_spec hl
  exact ⟨c, k, i, f, a, cell, h1, h2, h3, h4, h5, h6, h7, h8, h9, hA a (Array.getElem?_eq_some_iff.mp h5).1⟩
theorem vx_isRef {C n d : String} {v : Value} {A : Nat → Prop} {s : State} {args : Array Value} (h : va_Z C n d v A s s.heap) (hv : v.isRef = true) : (Cond.isRef (.static C n d)).before args s = true := by
  obtain ⟨cf, kf, fi, f, a, cell, h1, h2, h3, h4, h5, h6, h7, -⟩ := h
  have he : (Term.static C n d).eval args s none [] s = some v := by
    simp [Term.eval, State.fieldNamed?, h1, h2, h4, h5, h6, h7]
  simp only [Cond.before, Cond.holds, Cond.value, he]
  cases v <;> simp_all [Value.isRef]
theorem vx_isRefq {C n d : String} {A : Nat → Prop} {s : State} {args : Array Value} (h : va_Zq C n d A s s.heap) : (Cond.isRef (.static C n d)).before args s = true := by
  rcases h with h | ⟨t, h⟩
  · exact vx_isRef h rfl
  · exact vx_isRef h rfl
/-- the same frame, seen from here: as if the method were called anew in this heap -/
theorem vx_rebase {T : State} (X : Stand p l e R s m args below meth c T locs cells slots) {R' : Room} (hf : R'.frames ≤ R.frames) (hl : R'.locals ≤ R.locals) (hc : cells + R'.cells ≤ R.cells) (hs : slots + R'.slots ≤ R.slots) :
    Stand p l e R' ((T.setVm s.vm).setFrames (.invoking m args :: below)) m args below meth c T [] 0 0 := by
  have htop : (T.setVm s.vm).topJava?.isSome := X.here.top
  have hF : ((T.setVm s.vm).setFrames (.invoking m args :: below)).frames = .invoking m args :: below := State.frames_setFrames _ (State.cur_lt_of_top htop)
  obtain ⟨g₀, hg0⟩ := Option.isSome_iff_exists.mp htop
  obtain ⟨r, hr⟩ := State.topJava?_eq_some.mp hg0
  have hl9 : e.platform.stackLimits (T.setVm s.vm).me = e.platform.stackLimits s.me := X.limits
  have hb9 : (T.setVm s.vm).me.stackBytes = s.me.stackBytes := X.bytes
  refine ⟨X.admits, X.cas, X.clock, hF, ?_, X.hears, X.method, X.code, X.here, X.tail, X.warmed, ?_, ?_, ?_⟩
  · have h := X.room
    have hU : ((T.setVm s.vm).setFrames (.invoking m args :: below)).localsInUse = s.localsInUse := by
      rw [State.localsInUse_invoking hF (meth := meth) (c := c) X.method X.code, State.localsInUse_invoking X.frames X.method X.code]
    simp only [State.hasRoom, Bool.and_eq_true, decide_eq_true_eq] at h ⊢
    obtain ⟨⟨⟨⟨h1, h2, h3, h4, h5, h6⟩, h7⟩, h8⟩, h9⟩ := h
    rw [X.frames, List.length_cons] at h2 h3
    have q1 := X.heapSize
    have q2 := X.used
    simp only [hF, hU, List.length_cons, State.stackLimits_setFrames, State.stackBytes_setFrames, hl9, hb9]
    refine ⟨⟨⟨⟨by omega, by omega, by omega, by omega, by omega, h6⟩, ?_⟩, ?_⟩, X.book⟩
    · show T.heap.size + R'.cells ≤ e.platform.maxCells
      omega
    · show T.slotsUsed + R'.slots ≤ e.platform.maxSlots
      omega
  · rw [State.stackLimits_setFrames]; rfl
  · rw [State.stackBytes_setFrames]; rfl
  · refine ⟨?_, Nat.le_refl _, Nat.le_refl _, ?_, ?_, fun a c9 h9 => ⟨c9, h9, rfl, rfl, fun _ _ => rfl⟩⟩
    · obtain ⟨t, ht, -⟩ := State.frames_cons hr
      show T.setVm s.vm = { ((T.setVm s.vm).setFrames (.invoking m args :: below)).setFrames (T.setVm s.vm).frames with heap := T.heap, slotsUsed := T.slotsUsed }
      rw [State.setFrames_setFrames, State.setFrames_self ht]
      rfl
    · show T.slotsUsed = T.slotsUsed + ((T.heap.toList.drop T.heap.size).map (·.slots.size)).sum
      rw [List.drop_eq_nil_of_le (Nat.le_of_eq Array.length_toList)]
      rfl
    · show ((T.heap.toList.drop T.heap.size).map (·.slots.size)).sum ≤ 0
      rw [List.drop_eq_nil_of_le (Nat.le_of_eq Array.length_toList)]
      exact Nat.le_refl _
/-- 'throw new E()': new; dup; invokespecial; athrow -/
theorem vx_throw0 {cc : ByteArray} {pc : Nat} (hexec : p.tables.exec = Jvm.exec) (hb : c.code = cc) (hl : l.stackTraces = false) {own cls : String} {names : List String} {ik ic mc ms : Nat} {A : Nat → Prop}
    (hown : s.vm.findClass own = some m.cls) (hcls : Bundle.fit cls = true) (hnames : ∀ n ∈ names, Bundle.fit n = true)
    (hk : (Cond.classLink own ik cls).before args s = true) (hini : (Cond.initialized cls).before args s = true) (hat : ∀ w ∈ vx_at0 own ic cls names, w.before args s = true)
    (hgood : ∀ w ∈ Cond.classLink own ik cls :: Cond.initialized cls :: vx_at0 own ic cls names, vx_ot w = true)
    (hU : vx_Zq Bundle.tN "UNASSIGNED_STACK" Bundle.steD A s s.heap) (hN : vx_Zq Bundle.tN "SUPPRESSED_SENTINEL" Bundle.listD A s s.heap) (hS : va_S A s.heap H locs) (hsize : ls.size = c.maxLocals)
    (d0 : decode cc pc = .ok (.new ik, 3)) (d3 : decode cc (pc + 3) = .ok (.dup, 1)) (d4 : decode cc (pc + 4) = .ok (.invokespecial ic, 3)) (d7 : decode cc (pc + 7) = .ok (.athrow, 1))
    (hout : ∀ x ∈ c.exceptionTable.toList, covers x (pc + 7) = false)
    (hRframes : names.length + 3 < R.frames) (hRlocals : (rest.map fun v => v.category).sum + (13 * (names.length + 1) + 42) ≤ R.locals) (hRcells : cells + 1 ≤ R.cells) (hRslots : slots + 6 ≤ R.slots) (hlocks : meth.locks = false)
    (hx : ∀ t : State, s.vm.Alike t.vm → H.size ≤ t.heap.size → (∀ q : Nat, q < H.size → t.heap[q]? = H[q]?) → XC cls s t)
    (hf : ∀ z ∈ locs, free z.base) (hc : cells + 1 ≤ mc) (hs : slots + 6 ≤ ms) :
    W p l e R s m args below meth c H locs cells slots (vx_MQ below Qc XC args s mc ms free) (F0 m pc ls rest) := by
  intro T hT X
  have htr : e.platform.stackTraces = false := (show e.platform.stackTraces = l.stackTraces by rw [X.admits.platform]).trans hl
  have Y := vx_rebase X (R' := { frames := R.frames, locals := R.locals, cells := 1, slots := 6 }) (Nat.le_refl _) (Nat.le_refl _) hRcells hRslots
  obtain ⟨s', hA⟩ : ∃ z, z = (T.setVm s.vm).setFrames (.invoking m args :: below) := ⟨_, rfl⟩
  rw [← hA] at Y
  have hvm : s'.vm = s.vm := by rw [hA]; rfl
  have hhp : s'.heap = H := by rw [hA]; exact hT
  have hW0 : s.WarmedH s'.vm := by rw [hvm]; exact State.WarmedH.refl s
  have hat' : ∀ w ∈ vx_at0 own ic cls names, w.before args s' = true := fun w hw => vx_ot_at hW0 hvm.symm (hgood w (List.mem_cons_of_mem _ (List.mem_cons_of_mem _ hw))) (hat w hw)
  have hk' : (Cond.classLink own ik cls).before args s' = true := vx_ot_at hW0 hvm.symm (hgood _ List.mem_cons_self) hk
  have hini' : (Cond.initialized cls).before args s' = true := vx_ot_at hW0 hvm.symm (hgood _ (List.mem_cons_of_mem _ List.mem_cons_self)) hini
  have hU' : vx_Zq Bundle.tN "UNASSIGNED_STACK" Bundle.steD A s' s'.heap := by rw [hhp]; exact vx_Zq.moved hW0.alike (hU.kept hS.2.1)
  have hN' : vx_Zq Bundle.tN "SUPPRESSED_SENTINEL" Bundle.listD A s' s'.heap := by rw [hhp]; exact vx_Zq.moved hW0.alike (hN.kept hS.2.1)
  have h : ∀ w ∈ Bundle.ownAtoms0 own ic cls names, w.before args s' = true := vx_own hat' (vx_isRefq hU'.1) (vx_isRefq hN'.1) hU'.2.word hN'.2.word
  have hown' : s'.vm.findClass own = some m.cls := by rw [hvm]; exact hown
  have hins : (Cond.instantiable cls 6).before args s' = true := h _ (by simp [Bundle.ownAtoms0])
  obtain ⟨vm₁, cX, kX, hfX, hkX, -, -, X₁, st1⟩ := Y.newCold hexec (own := own) (C := cls) (index := ik) (n := 6) hown' hk' hins hini'
    (g := F0 m pc ls rest) rfl (by rw [hb]; exact d0) (Nat.le_refl _) (Nat.le_refl _)
  generalize hT1 : (T.setVm vm₁).pushCell { cls := cX, slots := kX.instanceTypes.map defaultValue, vm := .none } = T1 at X₁ st1
  have hcat : (Value.ref T.heap.size).category = 1 := rfl
  have hcellA : T1.heap[T.heap.size]? = some (freshCell cX kX) := by rw [← hT1]; exact State.heap_pushCell_size _ _
  have d3' : decode c.code (pc + 3) = .ok (.dup, 1) := by rw [hb]; exact d3
  obtain ⟨U, hsteps, hrun, hend, hW, hsame, ce, hce, hO⟩ := X₁.ctorThrow0 hexec htr (own := own) (cls := cls) (names := names) (ic := ic) hown' hcls hnames h (fun x hx => nomatch hx) hfX hkX hcellA (by rw [hhp, hT]; exact Nat.le_refl _)
    (g := { method := m, pc := pc + 4, locals := ls, stack := .ref T.heap.size :: .ref T.heap.size :: rest, locked := none }) rfl hsize rfl rfl (rest := rest) rfl
    (by rw [hb]; exact d4) (by rw [hb]; exact d7) hout hRframes (by simp only [List.map_cons, List.sum_cons, hcat]; omega) hlocks
  obtain ⟨f1, f2⟩ := vx_frame hsame
  rw [hhp] at f1 f2
  have hWs : s.WarmedH U.vm := State.WarmedH.trans hW0 hW
  have hcl : s.vm.findClass cls = some ce.cls := by
    have h9 := hO.cls
    rw [hvm] at h9
    exact h9
  have hall : s.sameButNew ({ U with vm := s.vm } : State) locs mc ms := by
    subst hA
    obtain ⟨e1, e2⟩ := hsame
    rw [State.setFrames_setFrames] at e1
    have h2 : (T.setVm s.vm).sameButNew ({ U with vm := s.vm } : State) [] (0 + 1) (0 + 6) := ⟨e1, e2⟩
    have h3 := X.same.trans h2
    rw [List.append_nil] at h3
    exact h3.mono hc hs
  refine ⟨U, ?_, .threw T.heap.size, hrun, hend, Or.inr ⟨T.heap.size, rfl, cls, ce, locs, hx U hWs.alike f1 (fun q hq => f2 q hq (fun z hz => nomatch hz)), hce, hO.vm, hcl, hWs, hall, hf⟩⟩
  refine st1 _ ?_
  show Steps p.tables e below (T1.setTop { method := m, pc := pc + 3, locals := ls, stack := .ref T.heap.size :: rest, locked := none }) _
  jvm_step X₁.here [X₁.here.top, hexec, d3', Value.category]
  exact hsteps
/-- 'throw new E("text")': new; dup; ldc; invokespecial; athrow -/
theorem vx_throwS {cc : ByteArray} {pc : Nat} (hexec : p.tables.exec = Jvm.exec) (hb : c.code = cc) (hl : l.stackTraces = false) {own cls text : String} {names : List String} {ik is ic mc ms sa : Nat} {A : Nat → Prop}
    (hown : s.vm.findClass own = some m.cls) (hcls : Bundle.fit cls = true) (hnames : ∀ n ∈ names, Bundle.fit n = true)
    (hk : (Cond.classLink own ik cls).before args s = true) (hini : (Cond.initialized cls).before args s = true) (hstr : vk_R own is text sa s) (hat : ∀ w ∈ vx_atS own ic cls names, w.before args s = true)
    (hgood : ∀ w ∈ Cond.classLink own ik cls :: Cond.initialized cls :: vx_atS own ic cls names, vx_ot w = true)
    (hU : vx_Zq Bundle.tN "UNASSIGNED_STACK" Bundle.steD A s s.heap) (hN : vx_Zq Bundle.tN "SUPPRESSED_SENTINEL" Bundle.listD A s s.heap) (hS : va_S A s.heap H locs) (hsize : ls.size = c.maxLocals)
    (d0 : decode cc pc = .ok (.new ik, 3)) (d3 : decode cc (pc + 3) = .ok (.dup, 1)) (d4 : decode cc (pc + 4) = .ok (.ldc is, 2)) (d6 : decode cc (pc + 6) = .ok (.invokespecial ic, 3)) (d9 : decode cc (pc + 9) = .ok (.athrow, 1))
    (hout : ∀ x ∈ c.exceptionTable.toList, covers x (pc + 9) = false)
    (hRframes : names.length + 3 < R.frames) (hRlocals : (rest.map fun v => v.category).sum + (13 * (names.length + 1) + 43) ≤ R.locals) (hRcells : cells + 1 ≤ R.cells) (hRslots : slots + 6 ≤ R.slots) (hlocks : meth.locks = false)
    (hx : ∀ t : State, s.vm.Alike t.vm → H.size ≤ t.heap.size → (∀ q : Nat, q < H.size → t.heap[q]? = H[q]?) → XC cls s t)
    (hf : ∀ z ∈ locs, free z.base) (hc : cells + 1 ≤ mc) (hs : slots + 6 ≤ ms) :
    W p l e R s m args below meth c H locs cells slots (vx_MQ below Qc XC args s mc ms free) (F0 m pc ls rest) := by
  intro T hT X
  have htr : e.platform.stackTraces = false := (show e.platform.stackTraces = l.stackTraces by rw [X.admits.platform]).trans hl
  have Y := vx_rebase X (R' := { frames := R.frames, locals := R.locals, cells := 1, slots := 6 }) (Nat.le_refl _) (Nat.le_refl _) hRcells hRslots
  obtain ⟨s', hA⟩ : ∃ z, z = (T.setVm s.vm).setFrames (.invoking m args :: below) := ⟨_, rfl⟩
  rw [← hA] at Y
  have hvm : s'.vm = s.vm := by rw [hA]; rfl
  have hhp : s'.heap = H := by rw [hA]; exact hT
  have hW0 : s.WarmedH s'.vm := by rw [hvm]; exact State.WarmedH.refl s
  have hat' : ∀ w ∈ vx_atS own ic cls names, w.before args s' = true := fun w hw => vx_ot_at hW0 hvm.symm (hgood w (List.mem_cons_of_mem _ (List.mem_cons_of_mem _ hw))) (hat w hw)
  have hk' : (Cond.classLink own ik cls).before args s' = true := vx_ot_at hW0 hvm.symm (hgood _ List.mem_cons_self) hk
  have hini' : (Cond.initialized cls).before args s' = true := vx_ot_at hW0 hvm.symm (hgood _ (List.mem_cons_of_mem _ List.mem_cons_self)) hini
  have hU' : vx_Zq Bundle.tN "UNASSIGNED_STACK" Bundle.steD A s' s'.heap := by rw [hhp]; exact vx_Zq.moved hW0.alike (hU.kept hS.2.1)
  have hN' : vx_Zq Bundle.tN "SUPPRESSED_SENTINEL" Bundle.listD A s' s'.heap := by rw [hhp]; exact vx_Zq.moved hW0.alike (hN.kept hS.2.1)
  have h : ∀ w ∈ Bundle.ownAtoms own ic cls names, w.before args s' = true := vx_own hat' (vx_isRefq hU'.1) (vx_isRefq hN'.1) hU'.2.word hN'.2.word
  have hown' : s'.vm.findClass own = some m.cls := by rw [hvm]; exact hown
  have hins : (Cond.instantiable cls 6).before args s' = true := h _ (by simp [Bundle.ownAtoms])
  obtain ⟨vm₁, cX, kX, hfX, hkX, -, -, X₁, st1⟩ := Y.newCold hexec (own := own) (C := cls) (index := ik) (n := 6) hown' hk' hins hini'
    (g := F0 m pc ls rest) rfl (by rw [hb]; exact d0) (Nat.le_refl _) (Nat.le_refl _)
  generalize hT1 : (T.setVm vm₁).pushCell { cls := cX, slots := kX.instanceTypes.map defaultValue, vm := .none } = T1 at X₁ st1
  have hcat : (Value.ref T.heap.size).category = 1 := rfl
  have hcellA : T1.heap[T.heap.size]? = some (freshCell cX kX) := by rw [← hT1]; exact State.heap_pushCell_size _ _
  have d3' : decode c.code (pc + 3) = .ok (.dup, 1) := by rw [hb]; exact d3
  have d4' : decode c.code (pc + 4) = .ok (.ldc is, 2) := by rw [hb]; exact d4
  have hstr' : vk_R own is text sa s' := vk_R.warm hW0 hstr
  obtain ⟨U, hsteps, hrun, hend, hW, hsame, ce, hce, hO⟩ := X₁.ctorThrowS hexec htr (own := own) (cls := cls) (names := names) (ic := ic) hown' hcls hnames h (fun x hx => nomatch hx) hfX hkX hcellA (by rw [hhp, hT]; exact Nat.le_refl _) (msg := .ref sa) rfl
    (g := { method := m, pc := pc + 6, locals := ls, stack := .ref sa :: .ref T.heap.size :: .ref T.heap.size :: rest, locked := none }) rfl hsize rfl rfl (rest := rest) rfl
    (by rw [hb]; exact d6) (by rw [hb]; exact d9) hout hRframes (by simp only [List.map_cons, List.sum_cons, hcat]; omega) hlocks
  obtain ⟨f1, f2⟩ := vx_frame hsame
  rw [hhp] at f1 f2
  have hWs : s.WarmedH U.vm := State.WarmedH.trans hW0 hW
  have hcl : s.vm.findClass cls = some ce.cls := by
    have h9 := hO.cls
    rw [hvm] at h9
    exact h9
  have hall : s.sameButNew ({ U with vm := s.vm } : State) locs mc ms := by
    subst hA
    obtain ⟨e1, e2⟩ := hsame
    rw [State.setFrames_setFrames] at e1
    have h2 : (T.setVm s.vm).sameButNew ({ U with vm := s.vm } : State) [] (0 + 1) (0 + 6) := ⟨e1, e2⟩
    have h3 := X.same.trans h2
    rw [List.append_nil] at h3
    exact h3.mono hc hs
  refine ⟨U, ?_, .threw T.heap.size, hrun, hend, Or.inr ⟨T.heap.size, rfl, cls, ce, locs, hx U hWs.alike f1 (fun q hq => f2 q hq (fun z hz => nomatch hz)), hce, hO.vm, hcl, hWs, hall, hf⟩⟩
  refine st1 _ ?_
  show Steps p.tables e below (T1.setTop { method := m, pc := pc + 3, locals := ls, stack := .ref T.heap.size :: rest, locked := none }) _
  jvm_step X₁.here [X₁.here.top, hexec, d3', Value.category]
  exact X₁.ldcString hexec (own := own) (text := text) (index := is) (a := sa) hown' hstr'.1 hstr'.2
    (g := { method := m, pc := pc + 4, locals := ls, stack := .ref T.heap.size :: .ref T.heap.size :: rest, locked := none }) rfl d4' _ hsteps
/-- 'throw new E("text")', the text by a wide index -/
theorem vx_throwSW {cc : ByteArray} {pc : Nat} (hexec : p.tables.exec = Jvm.exec) (hb : c.code = cc) (hl : l.stackTraces = false) {own cls text : String} {names : List String} {ik is ic mc ms sa : Nat} {A : Nat → Prop}
    (hown : s.vm.findClass own = some m.cls) (hcls : Bundle.fit cls = true) (hnames : ∀ n ∈ names, Bundle.fit n = true)
    (hk : (Cond.classLink own ik cls).before args s = true) (hini : (Cond.initialized cls).before args s = true) (hstr : vk_R own is text sa s) (hat : ∀ w ∈ vx_atS own ic cls names, w.before args s = true)
    (hgood : ∀ w ∈ Cond.classLink own ik cls :: Cond.initialized cls :: vx_atS own ic cls names, vx_ot w = true)
    (hU : vx_Zq Bundle.tN "UNASSIGNED_STACK" Bundle.steD A s s.heap) (hN : vx_Zq Bundle.tN "SUPPRESSED_SENTINEL" Bundle.listD A s s.heap) (hS : va_S A s.heap H locs) (hsize : ls.size = c.maxLocals)
    (d0 : decode cc pc = .ok (.new ik, 3)) (d3 : decode cc (pc + 3) = .ok (.dup, 1)) (d4 : decode cc (pc + 4) = .ok (.ldc_w is, 3)) (d7 : decode cc (pc + 7) = .ok (.invokespecial ic, 3)) (d10 : decode cc (pc + 10) = .ok (.athrow, 1))
    (hout : ∀ x ∈ c.exceptionTable.toList, covers x (pc + 10) = false)
    (hRframes : names.length + 3 < R.frames) (hRlocals : (rest.map fun v => v.category).sum + (13 * (names.length + 1) + 43) ≤ R.locals) (hRcells : cells + 1 ≤ R.cells) (hRslots : slots + 6 ≤ R.slots) (hlocks : meth.locks = false)
    (hx : ∀ t : State, s.vm.Alike t.vm → H.size ≤ t.heap.size → (∀ q : Nat, q < H.size → t.heap[q]? = H[q]?) → XC cls s t)
    (hf : ∀ z ∈ locs, free z.base) (hc : cells + 1 ≤ mc) (hs : slots + 6 ≤ ms) :
    W p l e R s m args below meth c H locs cells slots (vx_MQ below Qc XC args s mc ms free) (F0 m pc ls rest) := by
  intro T hT X
  have htr : e.platform.stackTraces = false := (show e.platform.stackTraces = l.stackTraces by rw [X.admits.platform]).trans hl
  have Y := vx_rebase X (R' := { frames := R.frames, locals := R.locals, cells := 1, slots := 6 }) (Nat.le_refl _) (Nat.le_refl _) hRcells hRslots
  obtain ⟨s', hA⟩ : ∃ z, z = (T.setVm s.vm).setFrames (.invoking m args :: below) := ⟨_, rfl⟩
  rw [← hA] at Y
  have hvm : s'.vm = s.vm := by rw [hA]; rfl
  have hhp : s'.heap = H := by rw [hA]; exact hT
  have hW0 : s.WarmedH s'.vm := by rw [hvm]; exact State.WarmedH.refl s
  have hat' : ∀ w ∈ vx_atS own ic cls names, w.before args s' = true := fun w hw => vx_ot_at hW0 hvm.symm (hgood w (List.mem_cons_of_mem _ (List.mem_cons_of_mem _ hw))) (hat w hw)
  have hk' : (Cond.classLink own ik cls).before args s' = true := vx_ot_at hW0 hvm.symm (hgood _ List.mem_cons_self) hk
  have hini' : (Cond.initialized cls).before args s' = true := vx_ot_at hW0 hvm.symm (hgood _ (List.mem_cons_of_mem _ List.mem_cons_self)) hini
  have hU' : vx_Zq Bundle.tN "UNASSIGNED_STACK" Bundle.steD A s' s'.heap := by rw [hhp]; exact vx_Zq.moved hW0.alike (hU.kept hS.2.1)
  have hN' : vx_Zq Bundle.tN "SUPPRESSED_SENTINEL" Bundle.listD A s' s'.heap := by rw [hhp]; exact vx_Zq.moved hW0.alike (hN.kept hS.2.1)
  have h : ∀ w ∈ Bundle.ownAtoms own ic cls names, w.before args s' = true := vx_own hat' (vx_isRefq hU'.1) (vx_isRefq hN'.1) hU'.2.word hN'.2.word
  have hown' : s'.vm.findClass own = some m.cls := by rw [hvm]; exact hown
  have hins : (Cond.instantiable cls 6).before args s' = true := h _ (by simp [Bundle.ownAtoms])
  obtain ⟨vm₁, cX, kX, hfX, hkX, -, -, X₁, st1⟩ := Y.newCold hexec (own := own) (C := cls) (index := ik) (n := 6) hown' hk' hins hini'
    (g := F0 m pc ls rest) rfl (by rw [hb]; exact d0) (Nat.le_refl _) (Nat.le_refl _)
  generalize hT1 : (T.setVm vm₁).pushCell { cls := cX, slots := kX.instanceTypes.map defaultValue, vm := .none } = T1 at X₁ st1
  have hcat : (Value.ref T.heap.size).category = 1 := rfl
  have hcellA : T1.heap[T.heap.size]? = some (freshCell cX kX) := by rw [← hT1]; exact State.heap_pushCell_size _ _
  have d3' : decode c.code (pc + 3) = .ok (.dup, 1) := by rw [hb]; exact d3
  have d4' : decode c.code (pc + 4) = .ok (.ldc_w is, 3) := by rw [hb]; exact d4
  have hstr' : vk_R own is text sa s' := vk_R.warm hW0 hstr
  obtain ⟨U, hsteps, hrun, hend, hW, hsame, ce, hce, hO⟩ := X₁.ctorThrowS hexec htr (own := own) (cls := cls) (names := names) (ic := ic) hown' hcls hnames h (fun x hx => nomatch hx) hfX hkX hcellA (by rw [hhp, hT]; exact Nat.le_refl _) (msg := .ref sa) rfl
    (g := { method := m, pc := pc + 7, locals := ls, stack := .ref sa :: .ref T.heap.size :: .ref T.heap.size :: rest, locked := none }) rfl hsize rfl rfl (rest := rest) rfl
    (by rw [hb]; exact d7) (by rw [hb]; exact d10) hout hRframes (by simp only [List.map_cons, List.sum_cons, hcat]; omega) hlocks
  obtain ⟨f1, f2⟩ := vx_frame hsame
  rw [hhp] at f1 f2
  have hWs : s.WarmedH U.vm := State.WarmedH.trans hW0 hW
  have hcl : s.vm.findClass cls = some ce.cls := by
    have h9 := hO.cls
    rw [hvm] at h9
    exact h9
  have hall : s.sameButNew ({ U with vm := s.vm } : State) locs mc ms := by
    subst hA
    obtain ⟨e1, e2⟩ := hsame
    rw [State.setFrames_setFrames] at e1
    have h2 : (T.setVm s.vm).sameButNew ({ U with vm := s.vm } : State) [] (0 + 1) (0 + 6) := ⟨e1, e2⟩
    have h3 := X.same.trans h2
    rw [List.append_nil] at h3
    exact h3.mono hc hs
  refine ⟨U, ?_, .threw T.heap.size, hrun, hend, Or.inr ⟨T.heap.size, rfl, cls, ce, locs, hx U hWs.alike f1 (fun q hq => f2 q hq (fun z hz => nomatch hz)), hce, hO.vm, hcl, hWs, hall, hf⟩⟩
  refine st1 _ ?_
  show Steps p.tables e below (T1.setTop { method := m, pc := pc + 3, locals := ls, stack := .ref T.heap.size :: rest, locked := none }) _
  jvm_step X₁.here [X₁.here.top, hexec, d3', Value.category]
  exact X₁.ldcStringW hexec (own := own) (text := text) (index := is) (a := sa) hown' hstr'.1 hstr'.2
    (g := { method := m, pc := pc + 4, locals := ls, stack := .ref T.heap.size :: .ref T.heap.size :: rest, locked := none }) rfl d4' _ hsteps
end Ends
section Bodies
variable {l : Launch}
theorem vx_ofW {y : MethodName} {ws ws' : List Cond} {rm : Room} {Pc : Array Value → State → Prop} {Qc : Array Value → State → Outcome → State → Prop} {XC : String → State → State → Prop} {mc ms : Nat} {free : Addr → Prop} {cc : ByteArray} {maxL : Nat} {ret : Option FieldType}
    (hy : plainName y.cls = true) (hw : ws = Cond.code y cc maxL ret :: ws')
    (body : ∀ p e s m args below meth c s₁, BodyLoose p l y (headSpec ws rm) cc maxL ret e s m args below meth c s₁ → c.maxLocals = maxL → (∀ x ∈ c.exceptionTable.toList, False) → Pc args s →
      W p l e (headSpec ws rm).room s m args below meth c s.heap [] 0 0 (vx_MQ below Qc XC args s mc ms free) (entryFrame m args maxL)) : vx_Met l y ws rm Pc Qc XC mc ms free := by
  refine MetFree.of_bodyS (code := cc) (maxLocals := maxL) (ret := ret) hy ?_ ?_
  · intro args s m h hn
    obtain ⟨meth, c, h1, h2, h3, h4, h5, h6, -, -⟩ := Cond.code_spec hn (atoms_spec (ws := ws) h _ (by rw [hw]; exact List.mem_cons_self))
    exact ⟨meth, c, h1, h2, h3, h4, h5, h6⟩
  · intro p e s m args below meth c s₁ B hml hP _
    have hh0 : s₁.heap = s.heap := by rw [B.state]; rfl
    have ht : ∀ x ∈ c.exceptionTable.toList, False := by
      obtain ⟨meth9, c9, h1, h2, -, -, -, -, h7, -⟩ := Cond.code_spec B.named (atoms_spec (ws := ws) B.pre _ (by rw [hw]; exact List.mem_cons_self))
      cases Option.some.inj (h1.symm.trans B.method)
      cases Option.some.inj (h2.symm.trans (Stand.of_body B).code)
      intro x hx
      rw [Array.isEmpty_iff.mp h7] at hx
      cases hx
    obtain ⟨t, a1, o, b1, b2, b3⟩ := body p e s m args below meth c s₁ B hml ht hP s₁ hh0 (Stand.of_body B)
    exact ⟨t, o, a1, b1, b2, b3⟩
/-- the table of a body with handlers -/
theorem vx_table {p : Program} {x y : MethodName} {S : Spec} {cc bytes : ByteArray} {maxL maxL' : Nat} {ret ret' : Option FieldType} {e : Env} {s s₁ : State} {m : MethodId} {args : Array Value} {below : List Frame} {meth : Method} {c : Code} {hh : List (Nat × Nat × Nat × Nat)}
    (B : BodyLoose p l y S cc maxL ret e s m args below meth c s₁) (h : (Cond.codeWith y bytes maxL' ret' hh).before args s = true) : c.exceptionTable.toList = tableOf hh := by
  obtain ⟨m9, meth9, c9, hn9, h1, h2, -, -, h6, -⟩ := Cond.codeWith_spec h
  cases Option.some.inj (hn9.symm.trans B.named)
  cases Option.some.inj (h1.symm.trans B.method)
  cases Option.some.inj (h2.symm.trans (Stand.of_body B).code)
  rw [← h6, table_eq]
end Bodies
end VXA
/-! ===== END ===== -/
/-! ===== BEGIN a static call of a method with an exception table ===== -/
section VXS
variable {p : Program} {l : Launch} {e : Env} {R : Room} {s : State} {m : MethodId} {args : Array Value} {below : List Frame} {meth : Method} {c : Code} {T : State} {H : Heap} {locs : List Loc} {cells slots : Nat}
abbrev vx_CSW (R : Room) (s : State) (args : Array Value) (own : String) (index : Nat) (y : MethodName) (bytes : ByteArray) (maxL : Nat) (ret : Option FieldType) (hh : List (Nat × Nat × Nat × Nat)) (ws : List Cond) (rm : Room) (mc ms n : Nat) : Prop :=
  (rm.cells = mc ∧ rm.slots = ms ∧ rm.frames + 1 ≤ R.frames ∧ 8 + (maxL + 11) + rm.locals ≤ R.locals ∧ (∀ w ∈ ws, ∀ (a' : Array Value) (U : State), s.WarmedH U.vm → w.before a' U = true) ∧ Cond.codeWith y bytes maxL ret hh ∈ ws) ∧
  (Cond.codeWith y bytes maxL ret hh).before args s = true ∧ (Cond.initialized y.cls).before args s = true ∧ (y.cls ≠ "java/lang/invoke/MethodHandle" ∧ y.cls ≠ "java/lang/invoke/VarHandle") ∧
  (∀ sig, parseMethodDescriptor y.desc = some sig → n = sig.parameters.length) ∧ (Cond.methodLink own index y).before args s = true ∧ (Cond.static y).before args s = true
theorem vx_cwSW {own : String} {index maxL mc ms : Nat} {y : MethodName} {bytes : ByteArray} {ret : Option FieldType} {hh : List (Nat × Nat × Nat × Nat)} {Ts ws ws' : List Cond} {rm : Room} (n : Nat) (ht : ∀ w ∈ Ts, w.before args s = true) (hT : GoodIn Ts (va_wsS own index y ws)) (hw : ws = Cond.codeWith y bytes maxL ret hh :: ws') (hrc : rm.cells = mc) (hrs : rm.slots = ms)
    (hd : y.cls ≠ "java/lang/invoke/MethodHandle" ∧ y.cls ≠ "java/lang/invoke/VarHandle" ∧ (parseMethodDescriptor y.desc).map (fun d => d.parameters.length) = some n) (hR : rm.frames + 1 ≤ R.frames ∧ 8 + (maxL + 11) + rm.locals ≤ R.locals) :
    vx_CSW R s args own index y bytes maxL ret hh ws rm mc ms n := by
  have ok : ∀ w ∈ va_wsS own index y ws, w.before args s = true := fun w h => ht w (hT w h).1
  have hG : GoodIn Ts ws := fun w h => hT w (by unfold va_wsS; exact List.mem_append_right _ h)
  have hc : Cond.codeWith y bytes maxL ret hh ∈ ws := by rw [hw]; exact List.mem_cons_self
  refine ⟨⟨hrc, hrs, hR.1, hR.2, pay_in ht hG, hc⟩, ht _ (hG _ hc).1, ok _ (by simp [va_wsS]), ⟨hd.1, hd.2.1⟩, fun sig h => ?_, ok _ (by simp [va_wsS]), ok _ (by simp [va_wsS])⟩
  have h2 := hd.2.2
  rw [h] at h2
  exact (Option.some.inj h2).symm
theorem vx_callSW (X : Stand p l e R s m args below meth c T locs cells slots) (hexec : p.tables.exec = Jvm.exec) {own : String} {index : Nat} {y : MethodName} {bytes : ByteArray} {maxL : Nat} {ret : Option FieldType} {hh : List (Nat × Nat × Nat × Nat)}
    (hown : s.vm.findClass own = some m.cls) (hlink : (Cond.methodLink own index y).before args s = true) (hstat : (Cond.static y).before args s = true) (hinit : (Cond.initialized y.cls).before args s = true)
    (hcode : (Cond.codeWith y bytes maxL ret hh).before args s = true) (hy : y.cls ≠ "java/lang/invoke/MethodHandle" ∧ y.cls ≠ "java/lang/invoke/VarHandle")
    {W9 : Nat} {Pre : Pt → Array Value → Prop} {Post : Pt → Array Value → Option Value → Pt → Prop} (hK : Back l R p e below s args y 3 W9 Pre Post)
    {g : JFrame} (hg : g.method = m) (hsize : g.locals.size = c.maxLocals) {argsL rest : List Value} (hlen : ∀ sig, parseMethodDescriptor y.desc = some sig → argsL.length = sig.parameters.length)
    (hstack : g.stack = argsL.reverse ++ rest) (hW : 2 * g.monitorRoom + (rest.map fun v => v.category).sum ≤ W9) (hdg : decode c.code g.pc = .ok (.invokestatic index, 3))
    (hpre : ∀ vm₁, s.WarmedH vm₁ → Pre ⟨T.setVm vm₁, locs, cells, slots⟩ argsL.toArray) :
    ∃ (v : Option Value) (vm₁ : Vm) (B : Pt), s.WarmedH vm₁ ∧ Stand p l e R s m args below meth c B.U B.locs B.cells B.slots ∧ Post ⟨T.setVm vm₁, locs, cells, slots⟩ argsL.toArray v B ∧
      ∀ target, Steps p.tables e below (B.U.setTop { g with pc := g.pc + 3, stack := v.toList ++ rest }) target → Steps p.tables e below (T.setTop g) target := by
  obtain ⟨mk, methM, cM, hnamed, hmethM, -, -, -, -, -, -, hsigM⟩ := Cond.codeWith_spec hcode
  have hstatic : methM.isStatic = true := Cond.static_spec hnamed hmethM hstat
  obtain ⟨kP, hkP, -⟩ := className_of_methodNamed hnamed
  have hinitP : kP.init = .initialized := Cond.initialized_spec (findClass_of_methodNamed hnamed) hkP hinit
  obtain ⟨vm₁, X₁, hstep₁⟩ := X.invokestatic hexec hown hlink hnamed hmethM hstatic hkP hinitP hy (g := g) hg (argsL := argsL) (rest := rest) (hlen _ hsigM) hstack hdg
  obtain ⟨v, B, X', hpost, hsteps⟩ := hK m meth c ⟨T.setVm vm₁, locs, cells, slots⟩ { g with stack := rest } (.invokestatic index) mk argsL.toArray X₁ hg hsize hdg hW (X₁.named hnamed) (hpre vm₁ X₁.warmed)
  exact ⟨v, vm₁, B, X₁.warmed, X', hpost, fun target h => hstep₁ _ fun acts => by rw [doInvoke_state]; exact hsteps.trans h⟩
theorem vx_runSW {y : MethodName} {bytes cc : ByteArray} {maxL nL mc ms n index : Nat} {ret : Option FieldType} {hh : List (Nat × Nat × Nat × Nat)} {ws : List Cond} {rm : Room} {Pc : Array Value → State → Prop} {Qc : Array Value → State → Outcome → State → Prop} {free : Addr → Prop} {Ts : List Cond} {own : String} {As rest : List Value} {g : JFrame}
    (S : CallFix p m c cc nL s args Ts own) (hM : Met l y ws rm Pc Qc mc ms free) (cw : vx_CSW R s args own index y bytes maxL ret hh ws rm mc ms n) (hp : PreS s H Pc As)
    (hg : g.method = m) (hn : As.length = n) (hsize : g.locals.size = nL) (hstack : g.stack = As.reverse ++ rest) (hW : 2 * g.monitorRoom + (rest.map fun v => v.category).sum ≤ 8) (hdg : decode cc g.pc = .ok (.invokestatic index, 3)) (hf : cells + mc ≤ R.cells ∧ slots + ms ≤ R.slots) :
    va_Run p l e R s m args below meth c H locs cells slots mc ms g rest (Qc As.toArray) (free) := by
  obtain ⟨⟨hrc, hrs, hfr, hlo, hws, hcw⟩, hcode, hini, hy, hlen, hl, hstt⟩ := cw
  have hK : Back l R p e below s args y 3 8 (PreOf R mc ms Pc) (PostOf Qc mc ms free) := va_backW (hh := hh) (bytes := bytes) (maxL := maxL) (ret := ret) hM hp.1 hrc hrs hfr hlo hws hcw (fun a' U hW => word_at hW (Or.inl (by first | rfl | simp [Cond.onTables, Cond.keeps, Cond.steady])) hini)
  obtain ⟨hx, hb, hml, ho, -⟩ := S
  intro T hT X
  obtain ⟨v, vm₁, ⟨U', l2, c2, s2⟩, hW₁, X', ⟨g', mk, t, L, e1, e2, hq, h1, hL, h2, h3⟩, st⟩ := vx_callSW X hx (hh := hh) (bytes := bytes) (maxL := maxL) (ret := ret) ho hl hstt hini hcode hy hK hg (hsize.trans hml.symm) (argsL := As) (rest := rest) (fun sig h => hn.trans (hlen sig h)) hstack hW (by rw [hb]; exact hdg)
    (fun vm₁ hW₁ => ⟨hf.1, hf.2, hp.2 (T.setVm vm₁) hT hW₁⟩)
  dsimp only [Pt.U, Pt.locs, Pt.cells, Pt.slots] at X' e1 e2 h1 h2 h3 st
  subst h1; subst h2; subst h3
  exact ⟨v, (T.setVm vm₁).calling g' mk As.toArray, t, U', L, hT, X', hL, e1, e2, hq, st⟩
/-- not caught here, past rows that name other classes: it goes on to the caller -/
theorem vx_outP {p : Program} {l : Launch} {e : Env} {R : Room} {s : State} {m : MethodId} {args : Array Value} {below : List Frame} {meth : Method} {c : Code} {H : Heap} {locs : List Loc} {cells slots : Nat} {free : Addr → Prop} {ls : Array Slot} {rest : List Value} {Qc : Array Value → State → Outcome → State → Prop} {XC : String → State → State → Prop}
    {pc : Nat} {own E : String} {ce : Cell} {q : Addr} {mc ms : Nat} (hown : s.vm.findClass own = some m.cls) (hlocks : meth.locks = false)
    (hpass : ∀ z ∈ c.exceptionTable.toList, covers z pc = false ∨ (z.catchType ≠ 0 ∧ ∃ nm : String, (Cond.classLink own z.catchType nm).before args s = true ∧ va_Nc E nm s)) (hcell : H[q]? = some ce) (hv : ce.vm = .none) (hcl : s.vm.findClass E = some ce.cls)
    (hx : ∀ t : State, t.heap = H → s.vm.Alike t.vm → XC E s t) (hf : ∀ z ∈ locs, free z.base) (hc : cells ≤ mc) (hs : slots ≤ ms) :
    vx_W p l e R s m args below meth c H locs cells slots (vx_MQ below Qc XC args s mc ms free) (F0 m pc ls rest) q := by
  intro T hT X
  have hpl : e.platform.magicAccessors = ({} : Platform).magicAccessors := by rw [X.admits.platform]
  obtain ⟨vm', hW', X', st⟩ := X.outThrough hlocks q (g := F0 m pc ls rest) rfl rfl rfl (cell := ce) (by rw [hT]; exact hcell) (by rw [hv]; rfl)
    (by obtain ⟨k9, h9, -⟩ := Vm.findClass_spec hcl; exact ⟨k9, h9⟩) (fun z hz => by
      rcases hpass z hz with h | ⟨hz0, nm, hl1, hn1⟩
      · exact Or.inl h
      · obtain ⟨c6, hc6, hcl6⟩ := Cond.classLink_spec hown hl1 e.platform hpl
        obtain ⟨a8, b8, h1, h2, h3⟩ := hn1
        cases Option.some.inj (h1.symm.trans hcl)
        cases Option.some.inj (h2.symm.trans hc6)
        exact Or.inr ⟨hz0, _, hcl6, h3⟩)
  obtain ⟨g₀, hfr⟩ := X'.frames_eq
  have hcell9 : ((T.setVm vm').setFrames (.throwing q :: below)).heap[q]? = some ce := by
    show T.heap[q]? = some ce
    rw [hT]; exact hcell
  have hend : Ended ((T.setVm vm').setFrames (.throwing q :: below)) below (.threw q) := State.frames_setFrames _ (State.cur_lt_of_frames hfr)
  refine ⟨(T.setVm vm').setFrames (.throwing q :: below), ?_, .threw q, X'.here.running, hend, Or.inr ⟨q, rfl, E, ce, locs, hx _ hT (X'.ends _).1.alike, hcell9, hv, hcl, (X'.ends _).1, (X'.ends _).2.mono hc hs, hf⟩⟩
  rw [X.pushThrowing_eq]
  exact st
/-- a thing of a world lies in the heap -/
theorem vx_lt {D : va_G} {cl : List vw_C} {ws : va_W} {H1 : Heap} (h : va_P D cl ws H1) {k : Nat} {q : Nat × va_E} (hk : ws[k]? = some q) : q.1 < H1.size := (h k q hk).lt
end VXS
/-! ===== END ===== -/
/-! ===== BEGIN methods with a table of their own: called by a name, returning or throwing ===== -/
section VXH
/-! vx_backW, vx_callVX, vx_callSX, vx_callVW, vx_runVW, vx_runVX, vx_runSX, vx_ofWH follow the same proofs as their sisters above (Free/Laws.lean, Shelf42/LK1.lean); vx_outP calls Shelf42/NT130.lean (outThrough). -/
section
variable {l : Launch} {R : Room} {p : Program} {e : Env} {below : List Frame} {s : State} {sargs : Array Value} {y : MethodName} {len W9 : Nat}
theorem vx_backW {ws : List Cond} {rm : Room} {Pc : Array Value → State → Prop} {Qc : Array Value → State → Outcome → State → Prop} {XC : String → State → State → Prop} {mc ms : Nat} {free : Addr → Prop} {bytes : ByteArray} {maxL : Nat} {ret : Option FieldType} {hh : List (Nat × Nat × Nat × Nat)}
    (hM : vx_Met l y ws rm Pc Qc XC mc ms free) (hblind : FrameBlind Pc) (hrc : rm.cells = mc) (hrs : rm.slots = ms)
    (hframes : rm.frames + 1 ≤ R.frames) (hlocals : W9 + (maxL + 11) + rm.locals ≤ R.locals)
    (hws : ∀ w ∈ ws, ∀ a' U, s.WarmedH U.vm → w.before a' U = true) (hcode : Cond.codeWith y bytes maxL ret hh ∈ ws) (hinit : ∀ a' U, s.WarmedH U.vm → (Cond.initialized y.cls).before a' U = true) :
    vx_Back l R p e below s sargs y len W9 (PreOf R mc ms Pc) (PostOf Qc mc ms free) (vx_Post XC mc ms free) := by
  intro m meth c A g ig mk a X hg hsize hdg hW hn hp
  have h1 : (headSpec ws rm).pre.before a A.U = true := atoms_intro fun w hw => hws w hw _ _ X.warmed
  have h2 : (Cond.codeWith y bytes maxL ret hh).before a A.U = true := hws _ hcode _ _ X.warmed
  have h3 : (Cond.initialized y.cls).before a A.U = true := hinit _ _ X.warmed
  have h4 : A.cells + (headSpec ws rm).room.cells ≤ R.cells := by rw [show (headSpec ws rm).room.cells = mc from hrc]; exact hp.1
  have h5 : A.slots + (headSpec ws rm).room.slots ≤ R.slots := by rw [show (headSpec ws rm).room.slots = ms from hrs]; exact hp.2.1
  have hPc : Pc a (A.U.calling g mk a) := hblind _ _ _ _ hp.2.2
  obtain ⟨U, Ls, c0, s0⟩ := A
  dsimp only [Pt.U, Pt.locs, Pt.cells, Pt.slots] at h1 h2 h3 h4 h5 X hn hPc ⊢
  obtain ⟨m9, methY, cY, hn9, hmY, hcY, -, hlY, -⟩ := Cond.codeWith_spec h2
  cases Option.some.inj (hn9.symm.trans hn)
  obtain ⟨kY, hkY, -⟩ := className_of_methodNamed hn
  have hinitY : kY.init = .initialized := Cond.initialized_spec (findClass_of_methodNamed hn) hkY h3
  have h : At U g.method c below := by rw [hg]; exact X.here
  have hlocals9 : W9 + (maxL + 11) + (headSpec ws rm).room.locals ≤ R.locals := hlocals
  have happ : (headSpec ws rm).appliesLoose y e.platform (U.calling g mk a) = true :=
    Spec.appliesLoose_calling (g := g) h hdg hn hkY hinitY
      (X.room_calling (g := g) (R' := (headSpec ws rm).room) hsize hmY hcY hframes (by rw [hlY]; omega) h4 h5) h1
  obtain ⟨mid, hmid⟩ := h.above
  have hfr : (U.setTop g).frames = (.java g :: mid) ++ below := by rw [State.frames_setTop' g h.top, hmid]; rfl
  obtain ⟨o, s₂, hsteps, -, hend, hq⟩ := Steps.callFree hM p X.admits X.cas X.clock (acts := []) hfr happ hPc trivial
  have hq' : vx_Q Qc XC mc ms free a (U.calling g mk a) o s₂ := hq
  rw [State.frames_setTop' g h.top] at hend
  obtain ⟨g₀, hg0⟩ := Option.isSome_iff_exists.mp h.top
  obtain ⟨r, hr⟩ := State.topJava?_eq_some.mp hg0
  have hr' : (({ U with heap := s₂.heap, slotsUsed := s₂.slotsUsed } : State).setVm s₂.vm).frames = .java g₀ :: r := hr
  rcases hq' with ⟨hqc, L, hfe, hL⟩ | ⟨q, rfl, E, ce, L, hx, hce, hcv, hcl, hW₂, hsm, hL⟩
  · obtain ⟨⟨v, rfl⟩, hW₂, e2, q2, q3, q4, q5, q6⟩ := id hfe
    have e3 : s₂ = ({ (U.calling g mk a).setFrames s₂.frames with heap := s₂.heap, slotsUsed := s₂.slotsUsed } : State).setVm s₂.vm := by
      have : s₂ = ({ s₂ with vm := (U.calling g mk a).vm } : State).setVm s₂.vm := rfl
      rw [e2] at this
      exact this
    obtain ⟨c₂, i₂, len₂, hc₂, hd₂, hf₂⟩ := hend
    have hW' : U.WarmedH s₂.vm := hW₂
    have hcc : c₂ = c := by
      have h1 : s₂.code? g.method = U.code? g.method := by
        rw [State.code?_eq, State.code?_eq, hW'.alike.method?]
      exact Option.some.inj (hc₂.symm.trans (h1.trans h.code))
    subst hcc
    have hlen : len₂ = len := by rw [hdg] at hd₂; cases hd₂; rfl
    subst hlen
    have hs₂ : s₂ = (({ U with heap := s₂.heap, slotsUsed := s₂.slotsUsed } : State).setVm s₂.vm).setTop { g with pc := g.pc + len₂, stack := v.toList ++ g.stack } := by
      refine e3.trans ?_
      rw [hf₂, State.calling_eq h.top, State.setFrames_setFrames, State.setTop_of_frames _ hr', hr]
      rfl
    have hsame : U.sameButNew ({ U with heap := s₂.heap, slotsUsed := s₂.slotsUsed } : State) L mc ms := by
      refine ⟨?_, q2, q3, q4, q5, q6⟩
      obtain ⟨t, ht, -⟩ := State.frames_cons hr
      show ({ U with heap := s₂.heap, slotsUsed := s₂.slotsUsed } : State) = { U.setFrames U.frames with heap := s₂.heap, slotsUsed := s₂.slotsUsed }
      rw [State.setFrames_self ht]
    subst hg
    refine Or.inl ⟨v, ⟨(({ U with heap := s₂.heap, slotsUsed := s₂.slotsUsed } : State).setVm s₂.vm), Ls ++ L, c0 + mc, s0 + ms⟩,
      ⟨X.admits, X.cas, X.clock, X.frames, X.room, X.hears, X.method, X.code, (X.here.setHeapUsed s₂.heap s₂.slotsUsed).setVm hW'.alike, X.tail, State.WarmedH.trans X.warmed hW', X.limits, X.bytes, X.same.trans (hsame.setVm s.vm)⟩,
      ⟨g, mk, s₂, L, rfl, rfl, hqc, rfl, hL, rfl, rfl⟩, ?_⟩
    show Steps p.tables e below _ ((({ U with heap := s₂.heap, slotsUsed := s₂.slotsUsed } : State).setVm s₂.vm).setTop { g with pc := g.pc + len₂, stack := v.toList ++ g.stack })
    rw [← hs₂]
    exact hsteps
  · obtain ⟨e2, q2, q3, q4, q5, q6⟩ := id hsm
    have e3 : s₂ = ({ (U.calling g mk a).setFrames s₂.frames with heap := s₂.heap, slotsUsed := s₂.slotsUsed } : State).setVm s₂.vm := by
      have : s₂ = ({ s₂ with vm := (U.calling g mk a).vm } : State).setVm s₂.vm := rfl
      rw [e2] at this
      exact this
    have hf₂ : s₂.frames = .throwing q :: .java g :: U.frames.tail := hend
    have hW' : U.WarmedH s₂.vm := hW₂
    have hs₂ : s₂ = ((({ U with heap := s₂.heap, slotsUsed := s₂.slotsUsed } : State).setVm s₂.vm).setTop g).pushFrame (.throwing q) := by
      refine e3.trans ?_
      rw [hf₂, State.calling_eq h.top, State.setFrames_setFrames, State.pushFrame, State.frames_setTop _ hr', State.setTop_of_frames _ hr', State.setFrames_setFrames, hr]
      rfl
    have hsame : U.sameButNew ({ U with heap := s₂.heap, slotsUsed := s₂.slotsUsed } : State) L mc ms := by
      refine ⟨?_, q2, q3, q4, q5, q6⟩
      obtain ⟨t, ht, -⟩ := State.frames_cons hr
      show ({ U with heap := s₂.heap, slotsUsed := s₂.slotsUsed } : State) = { U.setFrames U.frames with heap := s₂.heap, slotsUsed := s₂.slotsUsed }
      rw [State.setFrames_self ht]
    subst hg
    refine Or.inr ⟨q, ⟨(({ U with heap := s₂.heap, slotsUsed := s₂.slotsUsed } : State).setVm s₂.vm), Ls ++ L, c0 + mc, s0 + ms⟩,
      ⟨X.admits, X.cas, X.clock, X.frames, X.room, X.hears, X.method, X.code, (X.here.setHeapUsed s₂.heap s₂.slotsUsed).setVm hW'.alike, X.tail, State.WarmedH.trans X.warmed hW', X.limits, X.bytes, X.same.trans (hsame.setVm s.vm)⟩,
      ⟨g, mk, s₂, L, E, ce, rfl, rfl, hx, hce, hcv, hcl, rfl, hL, rfl, rfl⟩, ?_⟩
    show Steps p.tables e below _ (((({ U with heap := s₂.heap, slotsUsed := s₂.slotsUsed } : State).setVm s₂.vm).setTop g).pushFrame (.throwing q))
    rw [← hs₂]
    exact hsteps
end
variable {p : Program} {l : Launch} {e : Env} {R : Room} {s : State} {m : MethodId} {args : Array Value} {below : List Frame} {meth : Method} {c : Code} {T : State} {H : Heap} {locs : List Loc} {cells slots : Nat}
theorem vx_callVX (X : Stand p l e R s m args below meth c T locs cells slots) (hexec : p.tables.exec = Jvm.exec) {own C : String} {index : Nat} {y : MethodName} {bytes : ByteArray} {maxL : Nat} {ret : Option FieldType} {hh : List (Nat × Nat × Nat × Nat)}
    (hown : s.vm.findClass own = some m.cls) (hlink : (Cond.methodLink own index y).before args s = true) (hinst : (Cond.instanceMethod y).before args s = true) (hsel : (Cond.selects C y y).before args s = true)
    (hcode : (Cond.codeWith y bytes maxL ret hh).before args s = true) (hy : y.cls ≠ "java/lang/invoke/MethodHandle" ∧ y.cls ≠ "java/lang/invoke/VarHandle")
    {W9 : Nat} {Pre : Pt → Array Value → Prop} {Post : Pt → Array Value → Option Value → Pt → Prop} {PostX : Pt → Array Value → Addr → Pt → Prop} (hK : vx_Back l R p e below s args y 3 W9 Pre Post PostX)
    {b : Addr} {cellB : Cell} (hcell : T.heap[b]? = some cellB) (hobj : cellB.vm.isStatics = false) (hcls : s.vm.findClass C = some cellB.cls)
    {g : JFrame} (hg : g.method = m) (hsize : g.locals.size = c.maxLocals) {argsL rest : List Value} (hlen : ∀ sig, parseMethodDescriptor y.desc = some sig → argsL.length = sig.parameters.length)
    (hstack : g.stack = argsL.reverse ++ .ref b :: rest) (hW : 2 * g.monitorRoom + (rest.map fun v => v.category).sum ≤ W9) (hdg : decode c.code g.pc = .ok (.invokevirtual index, 3))
    (hpre : ∀ vm₁, s.WarmedH vm₁ → Pre ⟨T.setVm vm₁, locs, cells, slots⟩ (Value.ref b :: argsL).toArray) :
    (∃ (v : Option Value) (vm₁ : Vm) (B : Pt), s.WarmedH vm₁ ∧ Stand p l e R s m args below meth c B.U B.locs B.cells B.slots ∧ Post ⟨T.setVm vm₁, locs, cells, slots⟩ (Value.ref b :: argsL).toArray v B ∧
      ∀ target, Steps p.tables e below (B.U.setTop { g with pc := g.pc + 3, stack := v.toList ++ rest }) target → Steps p.tables e below (T.setTop g) target) ∨
    (∃ (q : Addr) (vm₁ : Vm) (B : Pt), s.WarmedH vm₁ ∧ Stand p l e R s m args below meth c B.U B.locs B.cells B.slots ∧ PostX ⟨T.setVm vm₁, locs, cells, slots⟩ (Value.ref b :: argsL).toArray q B ∧
      Steps p.tables e below (T.setTop g) ((B.U.setTop { g with stack := rest }).pushFrame (.throwing q))) := by
  obtain ⟨mk, methM, hnamed, hmethM, hstM, habM⟩ := Cond.instanceMethod_spec hinst
  obtain ⟨m8, methM', cM, hn8, hmethM', -, -, -, -, -, -, hsigM⟩ := Cond.codeWith_spec hcode
  cases Option.some.inj (hn8.symm.trans hnamed)
  cases hmethM.symm.trans hmethM'
  obtain ⟨c2, r2, m2, q1, q2, q3, q4, kP, hkP, hkPi⟩ := Cond.selects_spec hsel
  cases hcls.symm.trans q1
  cases (State.methodFound?_of_named hnamed hy).symm.trans q2
  cases hnamed.symm.trans q3
  have hselP : selectMethod e.platform s.vm cellB.cls mk = .method mk := by rw [Launch.admits_selectMethod X.admits]; exact q4
  obtain ⟨vm₁, X₁, hstep₁⟩ := X.invokevirtual hexec hown hlink hnamed hmethM hstM hkP hkPi hy (a := b) (cell := cellB) hcell
    (fun z h => by rw [h] at hobj; cases hobj) hselP hmethM habM hkP hkPi (g := g) hg (argsL := argsL) (rest := rest) (hlen _ hsigM) hstack hdg
  rcases hK m meth c ⟨T.setVm vm₁, locs, cells, slots⟩ { g with stack := rest } (.invokevirtual index) mk (Value.ref b :: argsL).toArray X₁ hg hsize hdg hW (X₁.named hnamed) (hpre vm₁ X₁.warmed) with ⟨v, B, X', hpost, hsteps⟩ | ⟨q, B, X', hpost, hsteps⟩
  · exact Or.inl ⟨v, vm₁, B, X₁.warmed, X', hpost, fun target h => hstep₁ _ fun acts => by rw [doInvoke_state]; exact hsteps.trans h⟩
  · exact Or.inr ⟨q, vm₁, B, X₁.warmed, X', hpost, hstep₁ _ fun acts => by rw [doInvoke_state]; exact hsteps⟩
theorem vx_callSX (X : Stand p l e R s m args below meth c T locs cells slots) (hexec : p.tables.exec = Jvm.exec) {own : String} {index : Nat} {y : MethodName} {bytes : ByteArray} {maxL : Nat} {ret : Option FieldType} {hh : List (Nat × Nat × Nat × Nat)}
    (hown : s.vm.findClass own = some m.cls) (hlink : (Cond.methodLink own index y).before args s = true) (hstat : (Cond.static y).before args s = true) (hinit : (Cond.initialized y.cls).before args s = true)
    (hcode : (Cond.codeWith y bytes maxL ret hh).before args s = true) (hy : y.cls ≠ "java/lang/invoke/MethodHandle" ∧ y.cls ≠ "java/lang/invoke/VarHandle")
    {W9 : Nat} {Pre : Pt → Array Value → Prop} {Post : Pt → Array Value → Option Value → Pt → Prop} {PostX : Pt → Array Value → Addr → Pt → Prop} (hK : vx_Back l R p e below s args y 3 W9 Pre Post PostX)
    {g : JFrame} (hg : g.method = m) (hsize : g.locals.size = c.maxLocals) {argsL rest : List Value} (hlen : ∀ sig, parseMethodDescriptor y.desc = some sig → argsL.length = sig.parameters.length)
    (hstack : g.stack = argsL.reverse ++ rest) (hW : 2 * g.monitorRoom + (rest.map fun v => v.category).sum ≤ W9) (hdg : decode c.code g.pc = .ok (.invokestatic index, 3))
    (hpre : ∀ vm₁, s.WarmedH vm₁ → Pre ⟨T.setVm vm₁, locs, cells, slots⟩ argsL.toArray) :
    (∃ (v : Option Value) (vm₁ : Vm) (B : Pt), s.WarmedH vm₁ ∧ Stand p l e R s m args below meth c B.U B.locs B.cells B.slots ∧ Post ⟨T.setVm vm₁, locs, cells, slots⟩ argsL.toArray v B ∧
      ∀ target, Steps p.tables e below (B.U.setTop { g with pc := g.pc + 3, stack := v.toList ++ rest }) target → Steps p.tables e below (T.setTop g) target) ∨
    (∃ (q : Addr) (vm₁ : Vm) (B : Pt), s.WarmedH vm₁ ∧ Stand p l e R s m args below meth c B.U B.locs B.cells B.slots ∧ PostX ⟨T.setVm vm₁, locs, cells, slots⟩ argsL.toArray q B ∧
      Steps p.tables e below (T.setTop g) ((B.U.setTop { g with stack := rest }).pushFrame (.throwing q))) := by
  obtain ⟨mk, methM, cM, hnamed, hmethM, -, -, -, -, -, -, hsigM⟩ := Cond.codeWith_spec hcode
  have hstatic : methM.isStatic = true := Cond.static_spec hnamed hmethM hstat
  obtain ⟨kP, hkP, -⟩ := className_of_methodNamed hnamed
  have hinitP : kP.init = .initialized := Cond.initialized_spec (findClass_of_methodNamed hnamed) hkP hinit
  obtain ⟨vm₁, X₁, hstep₁⟩ := X.invokestatic hexec hown hlink hnamed hmethM hstatic hkP hinitP hy (g := g) hg (argsL := argsL) (rest := rest) (hlen _ hsigM) hstack hdg
  rcases hK m meth c ⟨T.setVm vm₁, locs, cells, slots⟩ { g with stack := rest } (.invokestatic index) mk argsL.toArray X₁ hg hsize hdg hW (X₁.named hnamed) (hpre vm₁ X₁.warmed) with ⟨v, B, X', hpost, hsteps⟩ | ⟨q, B, X', hpost, hsteps⟩
  · exact Or.inl ⟨v, vm₁, B, X₁.warmed, X', hpost, fun target h => hstep₁ _ fun acts => by rw [doInvoke_state]; exact hsteps.trans h⟩
  · exact Or.inr ⟨q, vm₁, B, X₁.warmed, X', hpost, hstep₁ _ fun acts => by rw [doInvoke_state]; exact hsteps⟩
theorem vx_callVW (X : Stand p l e R s m args below meth c T locs cells slots) (hexec : p.tables.exec = Jvm.exec) {own C : String} {index : Nat} {y : MethodName} {bytes : ByteArray} {maxL : Nat} {ret : Option FieldType} {hh : List (Nat × Nat × Nat × Nat)}
    (hown : s.vm.findClass own = some m.cls) (hlink : (Cond.methodLink own index y).before args s = true) (hinst : (Cond.instanceMethod y).before args s = true) (hsel : (Cond.selects C y y).before args s = true)
    (hcode : (Cond.codeWith y bytes maxL ret hh).before args s = true) (hy : y.cls ≠ "java/lang/invoke/MethodHandle" ∧ y.cls ≠ "java/lang/invoke/VarHandle")
    {W9 : Nat} {Pre : Pt → Array Value → Prop} {Post : Pt → Array Value → Option Value → Pt → Prop} (hK : Back l R p e below s args y 3 W9 Pre Post)
    {b : Addr} {cellB : Cell} (hcell : T.heap[b]? = some cellB) (hobj : cellB.vm.isStatics = false) (hcls : s.vm.findClass C = some cellB.cls)
    {g : JFrame} (hg : g.method = m) (hsize : g.locals.size = c.maxLocals) {argsL rest : List Value} (hlen : ∀ sig, parseMethodDescriptor y.desc = some sig → argsL.length = sig.parameters.length)
    (hstack : g.stack = argsL.reverse ++ .ref b :: rest) (hW : 2 * g.monitorRoom + (rest.map fun v => v.category).sum ≤ W9) (hdg : decode c.code g.pc = .ok (.invokevirtual index, 3))
    (hpre : ∀ vm₁, s.WarmedH vm₁ → Pre ⟨T.setVm vm₁, locs, cells, slots⟩ (Value.ref b :: argsL).toArray) :
    ∃ (v : Option Value) (vm₁ : Vm) (B : Pt), s.WarmedH vm₁ ∧ Stand p l e R s m args below meth c B.U B.locs B.cells B.slots ∧ Post ⟨T.setVm vm₁, locs, cells, slots⟩ (Value.ref b :: argsL).toArray v B ∧
      ∀ target, Steps p.tables e below (B.U.setTop { g with pc := g.pc + 3, stack := v.toList ++ rest }) target → Steps p.tables e below (T.setTop g) target := by
  obtain ⟨mk, methM, hnamed, hmethM, hstM, habM⟩ := Cond.instanceMethod_spec hinst
  obtain ⟨m8, methM', cM, hn8, hmethM', -, -, -, -, -, -, hsigM⟩ := Cond.codeWith_spec hcode
  cases Option.some.inj (hn8.symm.trans hnamed)
  cases hmethM.symm.trans hmethM'
  obtain ⟨c2, r2, m2, q1, q2, q3, q4, kP, hkP, hkPi⟩ := Cond.selects_spec hsel
  cases hcls.symm.trans q1
  cases (State.methodFound?_of_named hnamed hy).symm.trans q2
  cases hnamed.symm.trans q3
  have hselP : selectMethod e.platform s.vm cellB.cls mk = .method mk := by rw [Launch.admits_selectMethod X.admits]; exact q4
  obtain ⟨vm₁, X₁, hstep₁⟩ := X.invokevirtual hexec hown hlink hnamed hmethM hstM hkP hkPi hy (a := b) (cell := cellB) hcell
    (fun z h => by rw [h] at hobj; cases hobj) hselP hmethM habM hkP hkPi (g := g) hg (argsL := argsL) (rest := rest) (hlen _ hsigM) hstack hdg
  obtain ⟨v, B, X', hpost, hsteps⟩ := hK m meth c ⟨T.setVm vm₁, locs, cells, slots⟩ { g with stack := rest } (.invokevirtual index) mk (Value.ref b :: argsL).toArray X₁ hg hsize hdg hW (X₁.named hnamed) (hpre vm₁ X₁.warmed)
  exact ⟨v, vm₁, B, X₁.warmed, X', hpost, fun target h => hstep₁ _ fun acts => by rw [doInvoke_state]; exact hsteps.trans h⟩
abbrev vx_CVW (R : Room) (s : State) (args : Array Value) (own C : String) (index : Nat) (y : MethodName) (bytes : ByteArray) (maxL : Nat) (ret : Option FieldType) (hh : List (Nat × Nat × Nat × Nat)) (ws : List Cond) (rm : Room) (mc ms n : Nat) : Prop :=
  (rm.cells = mc ∧ rm.slots = ms ∧ rm.frames + 1 ≤ R.frames ∧ 8 + (maxL + 11) + rm.locals ≤ R.locals ∧ (∀ w ∈ ws, ∀ (a' : Array Value) (U : State), s.WarmedH U.vm → w.before a' U = true) ∧ Cond.codeWith y bytes maxL ret hh ∈ ws) ∧
  (Cond.codeWith y bytes maxL ret hh).before args s = true ∧ (Cond.initialized y.cls).before args s = true ∧ (y.cls ≠ "java/lang/invoke/MethodHandle" ∧ y.cls ≠ "java/lang/invoke/VarHandle") ∧
  (∀ sig, parseMethodDescriptor y.desc = some sig → n = sig.parameters.length) ∧ (Cond.methodLink own index y).before args s = true ∧ (Cond.instanceMethod y).before args s = true ∧ (Cond.selects C y y).before args s = true
theorem vx_cwVW {own C : String} {index maxL mc ms : Nat} {y : MethodName} {bytes : ByteArray} {ret : Option FieldType} {hh : List (Nat × Nat × Nat × Nat)} {Ts ws ws' : List Cond} {rm : Room} (n : Nat) (ht : ∀ w ∈ Ts, w.before args s = true) (hT : GoodIn Ts (wsV own index C y ws)) (hw : ws = Cond.codeWith y bytes maxL ret hh :: ws') (hrc : rm.cells = mc) (hrs : rm.slots = ms)
    (hd : y.cls = C ∧ y.cls ≠ "java/lang/invoke/MethodHandle" ∧ y.cls ≠ "java/lang/invoke/VarHandle" ∧ (parseMethodDescriptor y.desc).map (fun d => d.parameters.length) = some n) (hR : rm.frames + 1 ≤ R.frames ∧ 8 + (maxL + 11) + rm.locals ≤ R.locals) :
    vx_CVW R s args own C index y bytes maxL ret hh ws rm mc ms n := by
  obtain ⟨hC, hd⟩ := hd
  subst hC
  have ok : ∀ w ∈ wsV own index y.cls y ws, w.before args s = true := fun w h => ht w (hT w h).1
  have hG : GoodIn Ts ws := fun w h => hT w (by unfold wsV; exact List.mem_append_right _ h)
  have hc : Cond.codeWith y bytes maxL ret hh ∈ ws := by rw [hw]; exact List.mem_cons_self
  refine ⟨⟨hrc, hrs, hR.1, hR.2, pay_in ht hG, hc⟩, ht _ (hG _ hc).1, ok _ (by simp [wsV]), ⟨hd.1, hd.2.1⟩, fun sig h => ?_, ok _ (by simp [wsV]), ok _ (by simp [wsV]), ok _ (by simp [wsV])⟩
  have h2 := hd.2.2
  rw [h] at h2
  exact (Option.some.inj h2).symm
theorem vx_runVW {y : MethodName} {bytes cc : ByteArray} {maxL nL mc ms n index : Nat} {ret : Option FieldType} {hh : List (Nat × Nat × Nat × Nat)} {ws : List Cond} {rm : Room} {Pc : Array Value → State → Prop} {Qc : Array Value → State → Outcome → State → Prop} {free : Addr → Prop} {Ts : List Cond} {own C : String} {b : Addr} {As rest : List Value} {g : JFrame}
    (S : CallFix p m c cc nL s args Ts own) (hM : Met l y ws rm Pc Qc mc ms free) (cw : vx_CVW R s args own C index y bytes maxL ret hh ws rm mc ms n) (hp : PreV s H C b Pc As)
    (hg : g.method = m) (hn : As.length = n) (hsize : g.locals.size = nL) (hstack : g.stack = As.reverse ++ .ref b :: rest) (hW : 2 * g.monitorRoom + (rest.map fun v => v.category).sum ≤ 8) (hdg : decode cc g.pc = .ok (.invokevirtual index, 3)) (hf : cells + mc ≤ R.cells ∧ slots + ms ≤ R.slots) :
    va_Run p l e R s m args below meth c H locs cells slots mc ms g rest (Qc (Value.ref b :: As).toArray) free := by
  obtain ⟨⟨hrc, hrs, hfr, hlo, hws, hcw⟩, hcode, hini, hy, hlen, hl, hin, hse⟩ := cw
  have hK : Back l R p e below s args y 3 8 (PreOf R mc ms Pc) (PostOf Qc mc ms free) := va_backW (hh := hh) (bytes := bytes) (maxL := maxL) (ret := ret) hM hp.1 hrc hrs hfr hlo hws hcw (fun a' U hW => word_at hW (Or.inl (by first | rfl | simp [Cond.onTables, Cond.keeps, Cond.steady])) hini)
  obtain ⟨hx, hb, hml, ho, -⟩ := S
  obtain ⟨-, ⟨cellB, hcB, hoB, hclB⟩, hPc⟩ := hp
  intro T hT X
  obtain ⟨v, vm₁, ⟨U', l2, c2, s2⟩, hW₁, X', ⟨g', mk, t, L, e1, e2, hq, h1, hL, h2, h3⟩, st⟩ := vx_callVW X hx (C := C) (hh := hh) (bytes := bytes) (maxL := maxL) (ret := ret) ho hl hin hse hcode hy hK (by rw [hT]; exact hcB) hoB hclB hg (hsize.trans hml.symm) (argsL := As) (rest := rest) (fun sig h => hn.trans (hlen sig h)) hstack hW (by rw [hb]; exact hdg)
    (fun vm₁ hW₁ => ⟨hf.1, hf.2, hPc (T.setVm vm₁) hT hW₁⟩)
  dsimp only [Pt.U, Pt.locs, Pt.cells, Pt.slots] at X' e1 e2 h1 h2 h3 st
  subst h1; subst h2; subst h3
  exact ⟨v, (T.setVm vm₁).calling g' mk (Value.ref b :: As).toArray, t, U', L, hT, X', hL, e1, e2, hq, st⟩
section
variable {y : MethodName} {bytes cc : ByteArray} {maxL nL mc ms n index : Nat} {ret : Option FieldType} {ws : List Cond} {rm : Room} {Pc : Array Value → State → Prop} {Qc : Array Value → State → Outcome → State → Prop} {XC : String → State → State → Prop} {free : Addr → Prop} {Ts : List Cond} {own C : String} {b : Addr} {As rest : List Value} {g : JFrame}
theorem vx_runVX {hh : List (Nat × Nat × Nat × Nat)} (S : CallFix p m c cc nL s args Ts own) (hM : vx_Met l y ws rm Pc Qc XC mc ms free) (cw : vx_CVW R s args own C index y bytes maxL ret hh ws rm mc ms n) (hp : PreV s H C b Pc As)
    (hg : g.method = m) (hn : As.length = n) (hsize : g.locals.size = nL) (hstack : g.stack = As.reverse ++ .ref b :: rest) (hW : 2 * g.monitorRoom + (rest.map fun v => v.category).sum ≤ 8) (hdg : decode cc g.pc = .ok (.invokevirtual index, 3)) (hf : cells + mc ≤ R.cells ∧ slots + ms ≤ R.slots) :
    vx_Run p l e R s m args below meth c H locs cells slots mc ms g rest (Qc (Value.ref b :: As).toArray) XC free := by
  obtain ⟨⟨hrc, hrs, hfr, hlo, hws, hcw⟩, hcode, hini, hy, hlen, hl, hin, hse⟩ := cw
  have hK : vx_Back l R p e below s args y 3 8 (PreOf R mc ms Pc) (PostOf Qc mc ms free) (vx_Post XC mc ms free) := vx_backW (hh := hh) (bytes := bytes) (maxL := maxL) (ret := ret) hM hp.1 hrc hrs hfr hlo hws hcw (fun a' U hW => word_at hW (Or.inl (by first | rfl | simp [Cond.onTables, Cond.keeps, Cond.steady])) hini)
  obtain ⟨hx, hb, hml, ho, -⟩ := S
  obtain ⟨-, ⟨cellB, hcB, hoB, hclB⟩, hPc⟩ := hp
  intro T hT X
  rcases vx_callVX X hx (C := C) (hh := hh) (bytes := bytes) (maxL := maxL) (ret := ret) ho hl hin hse hcode hy hK (by rw [hT]; exact hcB) hoB hclB hg (hsize.trans hml.symm) (argsL := As) (rest := rest) (fun sig h => hn.trans (hlen sig h)) hstack hW (by rw [hb]; exact hdg)
    (fun vm₁ hW₁ => ⟨hf.1, hf.2, hPc (T.setVm vm₁) hT hW₁⟩) with ⟨v, vm₁, ⟨U', l2, c2, s2⟩, hW₁, X', ⟨g', mk, t, L, e1, e2, hq, h1, hL, h2, h3⟩, st⟩ | ⟨q, vm₁, ⟨U', l2, c2, s2⟩, hW₁, X', ⟨g', mk, t, L, E, ce, e1, e2, hq, hce, hcv, hcl, h1, hL, h2, h3⟩, st⟩
  · dsimp only [Pt.U, Pt.locs, Pt.cells, Pt.slots] at X' e1 e2 h1 h2 h3 st
    subst h1; subst h2; subst h3
    exact Or.inl ⟨v, (T.setVm vm₁).calling g' mk (Value.ref b :: As).toArray, t, U', L, hT, X', hL, e1, e2, hq, st⟩
  · dsimp only [Pt.U, Pt.locs, Pt.cells, Pt.slots] at X' e1 e2 h1 h2 h3 st hcl
    subst h1; subst h2; subst h3
    exact Or.inr ⟨q, (T.setVm vm₁).calling g' mk (Value.ref b :: As).toArray, t, U', L, E, ce, hT, X', hL, e1, e2, hq, hce, hcv, vx_cls hW₁ hcl, st⟩
theorem vx_runSX {hh : List (Nat × Nat × Nat × Nat)} (S : CallFix p m c cc nL s args Ts own) (hM : vx_Met l y ws rm Pc Qc XC mc ms free) (cw : vx_CSW R s args own index y bytes maxL ret hh ws rm mc ms n) (hp : PreS s H Pc As)
    (hg : g.method = m) (hn : As.length = n) (hsize : g.locals.size = nL) (hstack : g.stack = As.reverse ++ rest) (hW : 2 * g.monitorRoom + (rest.map fun v => v.category).sum ≤ 8) (hdg : decode cc g.pc = .ok (.invokestatic index, 3)) (hf : cells + mc ≤ R.cells ∧ slots + ms ≤ R.slots) :
    vx_Run p l e R s m args below meth c H locs cells slots mc ms g rest (Qc As.toArray) XC free := by
  obtain ⟨⟨hrc, hrs, hfr, hlo, hws, hcw⟩, hcode, hini, hy, hlen, hl, hstt⟩ := cw
  have hK : vx_Back l R p e below s args y 3 8 (PreOf R mc ms Pc) (PostOf Qc mc ms free) (vx_Post XC mc ms free) := vx_backW (hh := hh) (bytes := bytes) (maxL := maxL) (ret := ret) hM hp.1 hrc hrs hfr hlo hws hcw (fun a' U hW => word_at hW (Or.inl (by first | rfl | simp [Cond.onTables, Cond.keeps, Cond.steady])) hini)
  obtain ⟨hx, hb, hml, ho, -⟩ := S
  intro T hT X
  rcases vx_callSX X hx (hh := hh) (bytes := bytes) (maxL := maxL) (ret := ret) ho hl hstt hini hcode hy hK hg (hsize.trans hml.symm) (argsL := As) (rest := rest) (fun sig h => hn.trans (hlen sig h)) hstack hW (by rw [hb]; exact hdg)
    (fun vm₁ hW₁ => ⟨hf.1, hf.2, hp.2 (T.setVm vm₁) hT hW₁⟩) with ⟨v, vm₁, ⟨U', l2, c2, s2⟩, hW₁, X', ⟨g', mk, t, L, e1, e2, hq, h1, hL, h2, h3⟩, st⟩ | ⟨q, vm₁, ⟨U', l2, c2, s2⟩, hW₁, X', ⟨g', mk, t, L, E, ce, e1, e2, hq, hce, hcv, hcl, h1, hL, h2, h3⟩, st⟩
  · dsimp only [Pt.U, Pt.locs, Pt.cells, Pt.slots] at X' e1 e2 h1 h2 h3 st
    subst h1; subst h2; subst h3
    exact Or.inl ⟨v, (T.setVm vm₁).calling g' mk As.toArray, t, U', L, hT, X', hL, e1, e2, hq, st⟩
  · dsimp only [Pt.U, Pt.locs, Pt.cells, Pt.slots] at X' e1 e2 h1 h2 h3 st hcl
    subst h1; subst h2; subst h3
    exact Or.inr ⟨q, (T.setVm vm₁).calling g' mk As.toArray, t, U', L, E, ce, hT, X', hL, e1, e2, hq, hce, hcv, vx_cls hW₁ hcl, st⟩
end
end VXH
theorem vx_ofWH {l : Launch} {y : MethodName} {ws ws' : List Cond} {rm : Room} {Pc : Array Value → State → Prop} {Qc : Array Value → State → Outcome → State → Prop} {XC : String → State → State → Prop} {mc ms : Nat} {free : Addr → Prop} {cc : ByteArray} {maxL : Nat} {ret : Option FieldType} {hh : List (Nat × Nat × Nat × Nat)}
    (hy : plainName y.cls = true) (hw : ws = Cond.codeWith y cc maxL ret hh :: ws')
    (body : ∀ p e s m args below meth c s₁, BodyLoose p l y (headSpec ws rm) cc maxL ret e s m args below meth c s₁ → c.maxLocals = maxL → Pc args s →
      W p l e (headSpec ws rm).room s m args below meth c s.heap [] 0 0 (vx_MQ below Qc XC args s mc ms free) (entryFrame m args maxL)) : vx_Met l y ws rm Pc Qc XC mc ms free := by
  refine MetFree.of_bodyS (code := cc) (maxLocals := maxL) (ret := ret) hy ?_ ?_
  · intro args s m h hn
    obtain ⟨m9, meth, c, hn9, h1, h2, h3, h4, -, h5, h6, -⟩ := Cond.codeWith_spec (atoms_spec (ws := ws) h _ (by rw [hw]; exact List.mem_cons_self))
    cases hn.symm.trans hn9
    exact ⟨meth, c, h1, h2, h3, h4, h5, h6⟩
  · intro p e s m args below meth c s₁ B hml hP _
    have hh0 : s₁.heap = s.heap := by rw [B.state]; rfl
    obtain ⟨t, a1, o, b1, b2, b3⟩ := body p e s m args below meth c s₁ B hml hP s₁ hh0 (Stand.of_body B)
    exact ⟨t, o, a1, b1, b2, b3⟩
/-! ===== END ===== -/
end
section
/-! ===== BEGIN printed: names, fields, word lists, decode rows ===== -/
def RX0 : String := "CoalHulks$Gang"
def TX0 : u_T := fun k => match k with
  | 0 => ("CoalHulks$Gang", "number", "I", true)
  | 1 => ("CoalHulks$Gang", "men", "I", true)
  | 2 => ("CoalHulks$Gang", "aboard", "Z", false)
  | 3 => ("CoalHulks$Gang", "rest", "I", false)
  | _ => ("CoalHulks$Gang", "hoursCounted", "I", false)
def tyX0 : Nat → FieldType := fun k => match k with
  | 0 => .int
  | 1 => .int
  | 2 => .boolean
  | 3 => .int
  | _ => .int
abbrev wsX00 : List Cond := u_ws RX0 TX0 5
theorem nmX0 : ∀ a, a < 5 → ∀ b, b < 5 → a ≠ b → (TX0 a).2.1 ≠ (TX0 b).2.1 := by decide +kernel
theorem tyX0_ok : ∀ k, k < 5 → parseFieldDescriptor (TX0 k).2.2.1 = some (tyX0 k) := by decide +kernel
abbrev cX0_init : ByteArray := prog_2_method_1_code
def yX0_init : MethodName := ⟨RX0, "<init>", "(II)V"⟩
abbrev cX0_isFree : ByteArray := prog_2_method_2_code
def yX0_isFree : MethodName := ⟨RX0, "isFree", "()Z"⟩
abbrev cX0_strength : ByteArray := prog_2_method_3_code
def yX0_strength : MethodName := ⟨RX0, "strength", "(I)I"⟩
abbrev cX0_lieDown : ByteArray := prog_2_method_4_code
def yX0_lieDown : MethodName := ⟨RX0, "lieDown", "()V"⟩
def RX1 : String := "CoalHulks$Hulk"
def TX1 : u_T := fun k => match k with
  | _ => ("CoalHulks$Hulk", "coal", "I", false)
def tyX1 : Nat → FieldType := fun k => match k with
  | _ => .int
abbrev wsX10 : List Cond := u_ws RX1 TX1 1
theorem nmX1 : ∀ a, a < 1 → ∀ b, b < 1 → a ≠ b → (TX1 a).2.1 ≠ (TX1 b).2.1 := by decide +kernel
theorem tyX1_ok : ∀ k, k < 1 → parseFieldDescriptor (TX1 k).2.2.1 = some (tyX1 k) := by decide +kernel
abbrev cX1_init : ByteArray := prog_3_method_1_code
def yX1_init : MethodName := ⟨RX1, "<init>", "(I)V"⟩
def RX2 : String := "CoalHulks$Lighter"
def TX2 : u_T := fun k => match k with
  | 0 => ("CoalHulks$Lighter", "hold", "I", true)
  | 1 => ("CoalHulks$Lighter", "load", "I", false)
  | 2 => ("CoalHulks$Lighter", "dust", "I", false)
  | 3 => ("CoalHulks$Lighter", "place", "I", false)
  | 4 => ("CoalHulks$Lighter", "hoursOut", "I", false)
  | 5 => ("CoalHulks$Lighter", "home", "LCoalHulks$Hulk;", false)
  | _ => ("CoalHulks$Lighter", "task", "LCoalHulks$Order;", false)
def tyX2 : Nat → FieldType := fun k => match k with
  | 0 => .int
  | 1 => .int
  | 2 => .int
  | 3 => .int
  | 4 => .int
  | 5 => .object "CoalHulks$Hulk"
  | _ => .object "CoalHulks$Order"
abbrev wsX20 : List Cond := u_ws RX2 TX2 7
theorem nmX2 : ∀ a, a < 7 → ∀ b, b < 7 → a ≠ b → (TX2 a).2.1 ≠ (TX2 b).2.1 := by decide +kernel
theorem tyX2_ok : ∀ k, k < 7 → parseFieldDescriptor (TX2 k).2.2.1 = some (tyX2 k) := by decide +kernel
abbrev cX2_init : ByteArray := prog_4_method_1_code
def yX2_init : MethodName := ⟨RX2, "<init>", "(ILCoalHulks$Hulk;)V"⟩
def RX3 : String := "CoalHulks$Order"
def TX3 : u_T := fun k => match k with
  | 0 => ("CoalHulks$Order", "shovellers", "LCoalHulks$Gang;", true)
  | _ => ("CoalHulks$Order", "target", "LCoalHulks$Steamer;", true)
def tyX3 : Nat → FieldType := fun k => match k with
  | 0 => .object "CoalHulks$Gang"
  | _ => .object "CoalHulks$Steamer"
abbrev wsX30 : List Cond := u_ws RX3 TX3 2
theorem nmX3 : ∀ a, a < 2 → ∀ b, b < 2 → a ≠ b → (TX3 a).2.1 ≠ (TX3 b).2.1 := by decide +kernel
theorem tyX3_ok : ∀ k, k < 2 → parseFieldDescriptor (TX3 k).2.2.1 = some (tyX3 k) := by decide +kernel
abbrev cX3_init : ByteArray := prog_5_method_1_code
def yX3_init : MethodName := ⟨RX3, "<init>", "(LCoalHulks$Gang;LCoalHulks$Steamer;)V"⟩
def RX4 : String := "CoalHulks$Steamer"
def TX4 : u_T := fun k => match k with
  | 0 => ("CoalHulks$Steamer", "number", "I", true)
  | 1 => ("CoalHulks$Steamer", "want", "I", false)
  | 2 => ("CoalHulks$Steamer", "patience", "I", false)
  | _ => ("CoalHulks$Steamer", "fate", "I", false)
def tyX4 : Nat → FieldType := fun k => match k with
  | 0 => .int
  | 1 => .int
  | 2 => .int
  | _ => .int
abbrev wsX40 : List Cond := u_ws RX4 TX4 4
theorem nmX4 : ∀ a, a < 4 → ∀ b, b < 4 → a ≠ b → (TX4 a).2.1 ≠ (TX4 b).2.1 := by decide +kernel
theorem tyX4_ok : ∀ k, k < 4 → parseFieldDescriptor (TX4 k).2.2.1 = some (tyX4 k) := by decide +kernel
abbrev cX4_init : ByteArray := prog_6_method_1_code
def yX4_init : MethodName := ⟨RX4, "<init>", "(III)V"⟩
abbrev cX4_hasLeft : ByteArray := prog_6_method_2_code
def yX4_hasLeft : MethodName := ⟨RX4, "hasLeft", "()Z"⟩
def RX5 : String := "CoalHulks"
def TX5 : u_T := fun k => match k with
  | 0 => ("CoalHulks", "hulks", "Ljava/util/ArrayList;", true)
  | 1 => ("CoalHulks", "lighters", "Ljava/util/ArrayList;", true)
  | 2 => ("CoalHulks", "gangs", "Ljava/util/ArrayList;", true)
  | 3 => ("CoalHulks", "steamers", "Ljava/util/ArrayList;", true)
  | 4 => ("CoalHulks", "present", "Ljava/util/ArrayList;", true)
  | 5 => ("CoalHulks", "hoursGone", "I", false)
  | _ => ("CoalHulks", "coalDelivered", "I", false)
def tyX5 : Nat → FieldType := fun k => match k with
  | 0 => .object "java/util/ArrayList"
  | 1 => .object "java/util/ArrayList"
  | 2 => .object "java/util/ArrayList"
  | 3 => .object "java/util/ArrayList"
  | 4 => .object "java/util/ArrayList"
  | 5 => .int
  | _ => .int
abbrev wsX50 : List Cond := u_ws RX5 TX5 7
theorem nmX5 : ∀ a, a < 7 → ∀ b, b < 7 → a ≠ b → (TX5 a).2.1 ≠ (TX5 b).2.1 := by decide +kernel
theorem tyX5_ok : ∀ k, k < 7 → parseFieldDescriptor (TX5 k).2.2.1 = some (tyX5 k) := by decide +kernel
abbrev cX5_init : ByteArray := prog_1_method_1_code
def yX5_init : MethodName := ⟨RX5, "<init>", "()V"⟩
abbrev cX5_hulk : ByteArray := prog_1_method_2_code
def yX5_hulk : MethodName := ⟨RX5, "hulk", "(I)I"⟩
abbrev cX5_lighter : ByteArray := prog_1_method_3_code
def yX5_lighter : MethodName := ⟨RX5, "lighter", "(I)I"⟩
abbrev cX5_gang : ByteArray := prog_1_method_4_code
def yX5_gang : MethodName := ⟨RX5, "gang", "(I)I"⟩
abbrev cX5_steamer : ByteArray := prog_1_method_5_code
def yX5_steamer : MethodName := ⟨RX5, "steamer", "(II)I"⟩
abbrev cX5_order : ByteArray := prog_1_method_6_code
def yX5_order : MethodName := ⟨RX5, "order", "(III)V"⟩
abbrev cX5_shift : ByteArray := prog_1_method_7_code
def yX5_shift : MethodName := ⟨RX5, "shift", "(II)V"⟩
abbrev cX5_sweep : ByteArray := prog_1_method_8_code
def yX5_sweep : MethodName := ⟨RX5, "sweep", "(II)I"⟩
abbrev cX5_hours : ByteArray := prog_1_method_9_code
def yX5_hours : MethodName := ⟨RX5, "hours", "(I)I"⟩
abbrev cX5_clock : ByteArray := prog_1_method_10_code
def yX5_clock : MethodName := ⟨RX5, "clock", "()I"⟩
abbrev cX5_coalIn : ByteArray := prog_1_method_11_code
def yX5_coalIn : MethodName := ⟨RX5, "coalIn", "(I)I"⟩
abbrev cX5_placeOf : ByteArray := prog_1_method_12_code
def yX5_placeOf : MethodName := ⟨RX5, "placeOf", "(I)I"⟩
abbrev cX5_loadOf : ByteArray := prog_1_method_13_code
def yX5_loadOf : MethodName := ⟨RX5, "loadOf", "(I)I"⟩
abbrev cX5_dustIn : ByteArray := prog_1_method_14_code
def yX5_dustIn : MethodName := ⟨RX5, "dustIn", "(I)I"⟩
abbrev cX5_gangOn : ByteArray := prog_1_method_15_code
def yX5_gangOn : MethodName := ⟨RX5, "gangOn", "(I)I"⟩
abbrev cX5_restOf : ByteArray := prog_1_method_16_code
def yX5_restOf : MethodName := ⟨RX5, "restOf", "(I)I"⟩
abbrev cX5_fateOf : ByteArray := prog_1_method_17_code
def yX5_fateOf : MethodName := ⟨RX5, "fateOf", "(I)I"⟩
abbrev cX5_wantOf : ByteArray := prog_1_method_18_code
def yX5_wantOf : MethodName := ⟨RX5, "wantOf", "(I)I"⟩
abbrev cX5_outside : ByteArray := prog_1_method_19_code
def yX5_outside : MethodName := ⟨RX5, "outside", "(I)I"⟩
abbrev cX5_delivered : ByteArray := prog_1_method_20_code
def yX5_delivered : MethodName := ⟨RX5, "delivered", "()I"⟩
abbrev cX5_refuseOutOfRange : ByteArray := prog_1_method_21_code
def yX5_refuseOutOfRange : MethodName := ⟨RX5, "refuseOutOfRange", "(III)V"⟩
abbrev cX5_refuseOrdered : ByteArray := prog_1_method_22_code
def yX5_refuseOrdered : MethodName := ⟨RX5, "refuseOrdered", "(LCoalHulks$Lighter;)V"⟩
abbrev cX5_refuseBusy : ByteArray := prog_1_method_23_code
def yX5_refuseBusy : MethodName := ⟨RX5, "refuseBusy", "(LCoalHulks$Gang;)V"⟩
abbrev cX5_findHulk : ByteArray := prog_1_method_24_code
def yX5_findHulk : MethodName := ⟨RX5, "findHulk", "(I)LCoalHulks$Hulk;"⟩
abbrev cX5_findLighter : ByteArray := prog_1_method_25_code
def yX5_findLighter : MethodName := ⟨RX5, "findLighter", "(I)LCoalHulks$Lighter;"⟩
abbrev cX5_findGang : ByteArray := prog_1_method_26_code
def yX5_findGang : MethodName := ⟨RX5, "findGang", "(I)LCoalHulks$Gang;"⟩
abbrev cX5_findSteamer : ByteArray := prog_1_method_27_code
def yX5_findSteamer : MethodName := ⟨RX5, "findSteamer", "(I)LCoalHulks$Steamer;"⟩
abbrev cX5_countFaring : ByteArray := prog_1_method_28_code
def yX5_countFaring : MethodName := ⟨RX5, "countFaring", "(I)I"⟩
abbrev cX5_passAnHour : ByteArray := prog_1_method_29_code
def yX5_passAnHour : MethodName := ⟨RX5, "passAnHour", "()I"⟩
abbrev cX5_restGangs : ByteArray := prog_1_method_30_code
def yX5_restGangs : MethodName := ⟨RX5, "restGangs", "()V"⟩
abbrev cX5_takeBuoys : ByteArray := prog_1_method_31_code
def yX5_takeBuoys : MethodName := ⟨RX5, "takeBuoys", "()V"⟩
abbrev cX5_workLighters : ByteArray := prog_1_method_32_code
def yX5_workLighters : MethodName := ⟨RX5, "workLighters", "()V"⟩
abbrev cX5_work : ByteArray := prog_1_method_33_code
def yX5_work : MethodName := ⟨RX5, "work", "(LCoalHulks$Lighter;LCoalHulks$Order;)V"⟩
abbrev cX5_workAtHulk : ByteArray := prog_1_method_34_code
def yX5_workAtHulk : MethodName := ⟨RX5, "workAtHulk", "(LCoalHulks$Lighter;LCoalHulks$Order;)V"⟩
abbrev cX5_shovelFromHulk : ByteArray := prog_1_method_35_code
def yX5_shovelFromHulk : MethodName := ⟨RX5, "shovelFromHulk", "(LCoalHulks$Lighter;LCoalHulks$Gang;)V"⟩
abbrev cX5_goOutward : ByteArray := prog_1_method_36_code
def yX5_goOutward : MethodName := ⟨RX5, "goOutward", "(LCoalHulks$Lighter;)V"⟩
abbrev cX5_workAtSteamer : ByteArray := prog_1_method_37_code
def yX5_workAtSteamer : MethodName := ⟨RX5, "workAtSteamer", "(LCoalHulks$Lighter;LCoalHulks$Order;)V"⟩
abbrev cX5_shovelIntoSteamer : ByteArray := prog_1_method_38_code
def yX5_shovelIntoSteamer : MethodName := ⟨RX5, "shovelIntoSteamer", "(LCoalHulks$Lighter;LCoalHulks$Order;)V"⟩
abbrev cX5_comeHome : ByteArray := prog_1_method_39_code
def yX5_comeHome : MethodName := ⟨RX5, "comeHome", "(LCoalHulks$Lighter;LCoalHulks$Order;)V"⟩
abbrev cX5_endOrder : ByteArray := prog_1_method_40_code
def yX5_endOrder : MethodName := ⟨RX5, "endOrder", "(LCoalHulks$Lighter;LCoalHulks$Order;)V"⟩
abbrev cX5_letSteamersLeave : ByteArray := prog_1_method_41_code
def yX5_letSteamersLeave : MethodName := ⟨RX5, "letSteamersLeave", "()I"⟩
abbrev cX5_recallLighters : ByteArray := prog_1_method_42_code
def yX5_recallLighters : MethodName := ⟨RX5, "recallLighters", "(LCoalHulks$Steamer;)V"⟩
abbrev cX5_recall : ByteArray := prog_1_method_43_code
def yX5_recall : MethodName := ⟨RX5, "recall", "(LCoalHulks$Lighter;LCoalHulks$Order;)V"⟩
abbrev cX5_forgetTheLeft : ByteArray := prog_1_method_44_code
def yX5_forgetTheLeft : MethodName := ⟨RX5, "forgetTheLeft", "()V"⟩
def RX6 : String := "CoalHulksModel"
def TX6 : u_T := fun k => match k with
  | 0 => ("CoalHulksModel", "coal", "[I", true)
  | 1 => ("CoalHulksModel", "hold", "[I", true)
  | 2 => ("CoalHulksModel", "load", "[I", true)
  | 3 => ("CoalHulksModel", "dust", "[I", true)
  | 4 => ("CoalHulksModel", "place", "[I", true)
  | 5 => ("CoalHulksModel", "home", "[I", true)
  | 6 => ("CoalHulksModel", "crew", "[I", true)
  | 7 => ("CoalHulksModel", "bound", "[I", true)
  | 8 => ("CoalHulksModel", "way", "[I", true)
  | 9 => ("CoalHulksModel", "men", "[I", true)
  | 10 => ("CoalHulksModel", "counts", "[I", true)
  | 11 => ("CoalHulksModel", "rest", "[I", true)
  | 12 => ("CoalHulksModel", "want", "[I", true)
  | 13 => ("CoalHulksModel", "last", "[I", true)
  | 14 => ("CoalHulksModel", "fate", "[I", true)
  | 15 => ("CoalHulksModel", "hulks", "I", false)
  | 16 => ("CoalHulksModel", "lighters", "I", false)
  | 17 => ("CoalHulksModel", "gangs", "I", false)
  | 18 => ("CoalHulksModel", "steamers", "I", false)
  | 19 => ("CoalHulksModel", "clock", "I", false)
  | 20 => ("CoalHulksModel", "delivered", "I", false)
  | _ => ("CoalHulksModel", "thrown", "I", false)
def tyX6 : Nat → FieldType := fun k => match k with
  | 0 => .array .int
  | 1 => .array .int
  | 2 => .array .int
  | 3 => .array .int
  | 4 => .array .int
  | 5 => .array .int
  | 6 => .array .int
  | 7 => .array .int
  | 8 => .array .int
  | 9 => .array .int
  | 10 => .array .int
  | 11 => .array .int
  | 12 => .array .int
  | 13 => .array .int
  | 14 => .array .int
  | 15 => .int
  | 16 => .int
  | 17 => .int
  | 18 => .int
  | 19 => .int
  | 20 => .int
  | _ => .int
abbrev wsX60 : List Cond := u_ws RX6 TX6 22
theorem nmX6 : ∀ a, a < 22 → ∀ b, b < 22 → a ≠ b → (TX6 a).2.1 ≠ (TX6 b).2.1 := by decide +kernel
theorem tyX6_ok : ∀ k, k < 22 → parseFieldDescriptor (TX6 k).2.2.1 = some (tyX6 k) := by decide +kernel
abbrev cX6_init : ByteArray := prog_8_method_1_code
def yX6_init : MethodName := ⟨RX6, "<init>", "()V"⟩
abbrev cX6_thrown : ByteArray := prog_8_method_2_code
def yX6_thrown : MethodName := ⟨RX6, "thrown", "()I"⟩
abbrev cX6_is : ByteArray := prog_8_method_3_code
def yX6_is : MethodName := ⟨RX6, "is", "(II)Z"⟩
abbrev cX6_least : ByteArray := prog_8_method_4_code
def yX6_least : MethodName := ⟨RX6, "least", "(II)I"⟩
abbrev cX6_many : ByteArray := prog_8_method_5_code
def yX6_many : MethodName := ⟨RX6, "many", "(I)I"⟩
abbrev cX6_hulk : ByteArray := prog_8_method_6_code
def yX6_hulk : MethodName := ⟨RX6, "hulk", "(I)I"⟩
abbrev cX6_lighter : ByteArray := prog_8_method_7_code
def yX6_lighter : MethodName := ⟨RX6, "lighter", "(I)I"⟩
abbrev cX6_gang : ByteArray := prog_8_method_8_code
def yX6_gang : MethodName := ⟨RX6, "gang", "(I)I"⟩
abbrev cX6_steamer : ByteArray := prog_8_method_9_code
def yX6_steamer : MethodName := ⟨RX6, "steamer", "(II)I"⟩
abbrev cX6_isBusy : ByteArray := prog_8_method_10_code
def yX6_isBusy : MethodName := ⟨RX6, "isBusy", "(I)Z"⟩
abbrev cX6_order : ByteArray := prog_8_method_11_code
def yX6_order : MethodName := ⟨RX6, "order", "(III)V"⟩
abbrev cX6_shift : ByteArray := prog_8_method_12_code
def yX6_shift : MethodName := ⟨RX6, "shift", "(II)V"⟩
abbrev cX6_sweep : ByteArray := prog_8_method_13_code
def yX6_sweep : MethodName := ⟨RX6, "sweep", "(II)I"⟩
abbrev cX6_endOrder : ByteArray := prog_8_method_14_code
def yX6_endOrder : MethodName := ⟨RX6, "endOrder", "(I)V"⟩
abbrev cX6_shovels : ByteArray := prog_8_method_15_code
def yX6_shovels : MethodName := ⟨RX6, "shovels", "(II)I"⟩
abbrev cX6_atHulk : ByteArray := prog_8_method_16_code
def yX6_atHulk : MethodName := ⟨RX6, "atHulk", "(I)V"⟩
abbrev cX6_atSteamer : ByteArray := prog_8_method_17_code
def yX6_atSteamer : MethodName := ⟨RX6, "atSteamer", "(I)V"⟩
abbrev cX6_turnHome : ByteArray := prog_8_method_18_code
def yX6_turnHome : MethodName := ⟨RX6, "turnHome", "(I)V"⟩
abbrev cX6_goOn : ByteArray := prog_8_method_19_code
def yX6_goOn : MethodName := ⟨RX6, "goOn", "(I)V"⟩
abbrev cX6_work : ByteArray := prog_8_method_20_code
def yX6_work : MethodName := ⟨RX6, "work", "(I)V"⟩
abbrev cX6_leave : ByteArray := prog_8_method_21_code
def yX6_leave : MethodName := ⟨RX6, "leave", "(I)V"⟩
abbrev cX6_hourOnce : ByteArray := prog_8_method_22_code
def yX6_hourOnce : MethodName := ⟨RX6, "hourOnce", "()I"⟩
abbrev cX6_hours : ByteArray := prog_8_method_23_code
def yX6_hours : MethodName := ⟨RX6, "hours", "(I)I"⟩
abbrev cX6_told : ByteArray := prog_8_method_24_code
def yX6_told : MethodName := ⟨RX6, "told", "([III)I"⟩
abbrev cX6_clock : ByteArray := prog_8_method_25_code
def yX6_clock : MethodName := ⟨RX6, "clock", "()I"⟩
abbrev cX6_coalIn : ByteArray := prog_8_method_26_code
def yX6_coalIn : MethodName := ⟨RX6, "coalIn", "(I)I"⟩
abbrev cX6_placeOf : ByteArray := prog_8_method_27_code
def yX6_placeOf : MethodName := ⟨RX6, "placeOf", "(I)I"⟩
abbrev cX6_loadOf : ByteArray := prog_8_method_28_code
def yX6_loadOf : MethodName := ⟨RX6, "loadOf", "(I)I"⟩
abbrev cX6_dustIn : ByteArray := prog_8_method_29_code
def yX6_dustIn : MethodName := ⟨RX6, "dustIn", "(I)I"⟩
abbrev cX6_gangOn : ByteArray := prog_8_method_30_code
def yX6_gangOn : MethodName := ⟨RX6, "gangOn", "(I)I"⟩
abbrev cX6_restOf : ByteArray := prog_8_method_31_code
def yX6_restOf : MethodName := ⟨RX6, "restOf", "(I)I"⟩
abbrev cX6_fateOf : ByteArray := prog_8_method_32_code
def yX6_fateOf : MethodName := ⟨RX6, "fateOf", "(I)I"⟩
abbrev cX6_wantOf : ByteArray := prog_8_method_33_code
def yX6_wantOf : MethodName := ⟨RX6, "wantOf", "(I)I"⟩
abbrev cX6_outside : ByteArray := prog_8_method_34_code
def yX6_outside : MethodName := ⟨RX6, "outside", "(I)I"⟩
abbrev cX6_delivered : ByteArray := prog_8_method_35_code
def yX6_delivered : MethodName := ⟨RX6, "delivered", "()I"⟩
def RJx145de : String := "java/io/Serializable"
def TJx145de : u_T := fun k => match k with
  | _ => ("", "", "", false)
def tyJx145de : Nat → FieldType := fun k => match k with
  | _ => .int
abbrev wsJx145de0 : List Cond := u_ws RJx145de TJx145de 0
theorem nmJx145de : ∀ a, a < 0 → ∀ b, b < 0 → a ≠ b → (TJx145de a).2.1 ≠ (TJx145de b).2.1 := by decide +kernel
theorem tyJx145de_ok : ∀ k, k < 0 → parseFieldDescriptor (TJx145de k).2.2.1 = some (tyJx145de k) := by decide +kernel
def RJx8e188 : String := "java/lang/Cloneable"
def TJx8e188 : u_T := fun k => match k with
  | _ => ("", "", "", false)
def tyJx8e188 : Nat → FieldType := fun k => match k with
  | _ => .int
abbrev wsJx8e1880 : List Cond := u_ws RJx8e188 TJx8e188 0
theorem nmJx8e188 : ∀ a, a < 0 → ∀ b, b < 0 → a ≠ b → (TJx8e188 a).2.1 ≠ (TJx8e188 b).2.1 := by decide +kernel
theorem tyJx8e188_ok : ∀ k, k < 0 → parseFieldDescriptor (TJx8e188 k).2.2.1 = some (tyJx8e188 k) := by decide +kernel
def RJxab1ab : String := "java/lang/Iterable"
def TJxab1ab : u_T := fun k => match k with
  | _ => ("", "", "", false)
def tyJxab1ab : Nat → FieldType := fun k => match k with
  | _ => .int
abbrev wsJxab1ab0 : List Cond := u_ws RJxab1ab TJxab1ab 0
theorem nmJxab1ab : ∀ a, a < 0 → ∀ b, b < 0 → a ≠ b → (TJxab1ab a).2.1 ≠ (TJxab1ab b).2.1 := by decide +kernel
theorem tyJxab1ab_ok : ∀ k, k < 0 → parseFieldDescriptor (TJxab1ab k).2.2.1 = some (tyJxab1ab k) := by decide +kernel
def RJ9 : String := "java/lang/Math"
def TJ9 : u_T := fun k => match k with
  | _ => ("", "", "", false)
def tyJ9 : Nat → FieldType := fun k => match k with
  | _ => .int
abbrev wsJ90 : List Cond := u_ws RJ9 TJ9 0
theorem nmJ9 : ∀ a, a < 0 → ∀ b, b < 0 → a ≠ b → (TJ9 a).2.1 ≠ (TJ9 b).2.1 := by decide +kernel
theorem tyJ9_ok : ∀ k, k < 0 → parseFieldDescriptor (TJ9 k).2.2.1 = some (tyJ9 k) := by decide +kernel
abbrev cJ9_max_7cf53 : ByteArray := prog_16_method_65_code
def yJ9_max_7cf53 : MethodName := ⟨RJ9, "max", "(II)I"⟩
abbrev cJ9_min_7cf53 : ByteArray := prog_16_method_69_code
def yJ9_min_7cf53 : MethodName := ⟨RJ9, "min", "(II)I"⟩
def RJ0 : String := "java/lang/String"
def TJ0 : u_T := fun k => match k with
  | _ => ("", "", "", false)
def tyJ0 : Nat → FieldType := fun k => match k with
  | _ => .int
abbrev wsJ00 : List Cond := u_ws RJ0 TJ0 0
theorem nmJ0 : ∀ a, a < 0 → ∀ b, b < 0 → a ≠ b → (TJ0 a).2.1 ≠ (TJ0 b).2.1 := by decide +kernel
theorem tyJ0_ok : ∀ k, k < 0 → parseFieldDescriptor (TJ0 k).2.2.1 = some (tyJ0 k) := by decide +kernel
def RJ10 : String := "java/lang/System"
def TJ10 : u_T := fun k => match k with
  | _ => ("", "", "", false)
def tyJ10 : Nat → FieldType := fun k => match k with
  | _ => .int
abbrev wsJ100 : List Cond := u_ws RJ10 TJ10 0
theorem nmJ10 : ∀ a, a < 0 → ∀ b, b < 0 → a ≠ b → (TJ10 a).2.1 ≠ (TJ10 b).2.1 := by decide +kernel
theorem tyJ10_ok : ∀ k, k < 0 → parseFieldDescriptor (TJ10 k).2.2.1 = some (tyJ10 k) := by decide +kernel
def RJxa1e45 : String := "java/util/AbstractCollection"
def TJxa1e45 : u_T := fun k => match k with
  | _ => ("", "", "", false)
def tyJxa1e45 : Nat → FieldType := fun k => match k with
  | _ => .int
abbrev wsJxa1e450 : List Cond := u_ws RJxa1e45 TJxa1e45 0
theorem nmJxa1e45 : ∀ a, a < 0 → ∀ b, b < 0 → a ≠ b → (TJxa1e45 a).2.1 ≠ (TJxa1e45 b).2.1 := by decide +kernel
theorem tyJxa1e45_ok : ∀ k, k < 0 → parseFieldDescriptor (TJxa1e45 k).2.2.1 = some (tyJxa1e45 k) := by decide +kernel
abbrev cJxa1e45_init_da8c8 : ByteArray := prog_21_method_1_code
def yJxa1e45_init_da8c8 : MethodName := ⟨RJxa1e45, "<init>", "()V"⟩
def RJxc12de : String := "java/util/AbstractList"
def TJxc12de : u_T := fun k => match k with
  | _ => ("", "", "", false)
def tyJxc12de : Nat → FieldType := fun k => match k with
  | _ => .int
abbrev wsJxc12de0 : List Cond := u_ws RJxc12de TJxc12de 0
theorem nmJxc12de : ∀ a, a < 0 → ∀ b, b < 0 → a ≠ b → (TJxc12de a).2.1 ≠ (TJxc12de b).2.1 := by decide +kernel
theorem tyJxc12de_ok : ∀ k, k < 0 → parseFieldDescriptor (TJxc12de k).2.2.1 = some (tyJxc12de k) := by decide +kernel
abbrev cJxc12de_init_da8c8 : ByteArray := prog_22_method_1_code
def yJxc12de_init_da8c8 : MethodName := ⟨RJxc12de, "<init>", "()V"⟩
def RJx4a65c : String := "java/util/ArrayList"
def TJx4a65c : u_T := fun k => match k with
  | 0 => ("java/util/AbstractList", "modCount", "I", false)
  | 1 => ("java/util/ArrayList", "elementData", "[Ljava/lang/Object;", false)
  | _ => ("java/util/ArrayList", "size", "I", false)
def tyJx4a65c : Nat → FieldType := fun k => match k with
  | 0 => .int
  | 1 => .array (.object "java/lang/Object")
  | _ => .int
abbrev wsJx4a65c0 : List Cond := u_ws RJx4a65c TJx4a65c 3
theorem nmJx4a65c : ∀ a, a < 3 → ∀ b, b < 3 → a ≠ b → (TJx4a65c a).2.1 ≠ (TJx4a65c b).2.1 := by decide +kernel
theorem tyJx4a65c_ok : ∀ k, k < 3 → parseFieldDescriptor (TJx4a65c k).2.2.1 = some (tyJx4a65c k) := by decide +kernel
abbrev cJx4a65c_init_da8c8 : ByteArray := prog_23_method_2_code
def yJx4a65c_init_da8c8 : MethodName := ⟨RJx4a65c, "<init>", "()V"⟩
abbrev cJx4a65c_grow_92f84 : ByteArray := prog_23_method_6_code
def yJx4a65c_grow_92f84 : MethodName := ⟨RJx4a65c, "grow", "(I)[Ljava/lang/Object;"⟩
abbrev cJx4a65c_grow_d5877 : ByteArray := prog_23_method_7_code
def yJx4a65c_grow_d5877 : MethodName := ⟨RJx4a65c, "grow", "()[Ljava/lang/Object;"⟩
abbrev cJx4a65c_size_8abf5 : ByteArray := prog_23_method_8_code
def yJx4a65c_size_8abf5 : MethodName := ⟨RJx4a65c, "size", "()I"⟩
abbrev cJx4a65c_isEmpty_aae02 : ByteArray := prog_23_method_9_code
def yJx4a65c_isEmpty_aae02 : MethodName := ⟨RJx4a65c, "isEmpty", "()Z"⟩
abbrev cJx4a65c_elementData_915e3 : ByteArray := prog_23_method_18_code
def yJx4a65c_elementData_915e3 : MethodName := ⟨RJx4a65c, "elementData", "(I)Ljava/lang/Object;"⟩
abbrev cJx4a65c_get_915e3 : ByteArray := prog_23_method_20_code
def yJx4a65c_get_915e3 : MethodName := ⟨RJx4a65c, "get", "(I)Ljava/lang/Object;"⟩
abbrev cJx4a65c_add_72be8 : ByteArray := prog_23_method_24_code
def yJx4a65c_add_72be8 : MethodName := ⟨RJx4a65c, "add", "(Ljava/lang/Object;[Ljava/lang/Object;I)V"⟩
abbrev cJx4a65c_add_9ea2d : ByteArray := prog_23_method_25_code
def yJx4a65c_add_9ea2d : MethodName := ⟨RJx4a65c, "add", "(Ljava/lang/Object;)Z"⟩
abbrev cJx4a65c_remove_915e3 : ByteArray := prog_23_method_29_code
def yJx4a65c_remove_915e3 : MethodName := ⟨RJx4a65c, "remove", "(I)Ljava/lang/Object;"⟩
abbrev cJx4a65c_fastRemove_b59b0 : ByteArray := prog_23_method_39_code
def yJx4a65c_fastRemove_b59b0 : MethodName := ⟨RJx4a65c, "fastRemove", "([Ljava/lang/Object;I)V"⟩
def RJ7 : String := "java/util/Arrays"
def TJ7 : u_T := fun k => match k with
  | _ => ("", "", "", false)
def tyJ7 : Nat → FieldType := fun k => match k with
  | _ => .int
abbrev wsJ70 : List Cond := u_ws RJ7 TJ7 0
theorem nmJ7 : ∀ a, a < 0 → ∀ b, b < 0 → a ≠ b → (TJ7 a).2.1 ≠ (TJ7 b).2.1 := by decide +kernel
theorem tyJ7_ok : ∀ k, k < 0 → parseFieldDescriptor (TJ7 k).2.2.1 = some (tyJ7 k) := by decide +kernel
abbrev cJ7_copyOf_1904c : ByteArray := prog_24_method_119_code
def yJ7_copyOf_1904c : MethodName := ⟨RJ7, "copyOf", "([Ljava/lang/Object;I)[Ljava/lang/Object;"⟩
abbrev cJ7_copyOf_6403c : ByteArray := prog_24_method_120_code
def yJ7_copyOf_6403c : MethodName := ⟨RJ7, "copyOf", "([Ljava/lang/Object;ILjava/lang/Class;)[Ljava/lang/Object;"⟩
def RJx5ef63 : String := "java/util/Collection"
def TJx5ef63 : u_T := fun k => match k with
  | _ => ("", "", "", false)
def tyJx5ef63 : Nat → FieldType := fun k => match k with
  | _ => .int
abbrev wsJx5ef630 : List Cond := u_ws RJx5ef63 TJx5ef63 0
theorem nmJx5ef63 : ∀ a, a < 0 → ∀ b, b < 0 → a ≠ b → (TJx5ef63 a).2.1 ≠ (TJx5ef63 b).2.1 := by decide +kernel
theorem tyJx5ef63_ok : ∀ k, k < 0 → parseFieldDescriptor (TJx5ef63 k).2.2.1 = some (tyJx5ef63 k) := by decide +kernel
def RJxbd725 : String := "java/util/List"
def TJxbd725 : u_T := fun k => match k with
  | _ => ("", "", "", false)
def tyJxbd725 : Nat → FieldType := fun k => match k with
  | _ => .int
abbrev wsJxbd7250 : List Cond := u_ws RJxbd725 TJxbd725 0
theorem nmJxbd725 : ∀ a, a < 0 → ∀ b, b < 0 → a ≠ b → (TJxbd725 a).2.1 ≠ (TJxbd725 b).2.1 := by decide +kernel
theorem tyJxbd725_ok : ∀ k, k < 0 → parseFieldDescriptor (TJxbd725 k).2.2.1 = some (tyJxbd725 k) := by decide +kernel
def RJ15 : String := "java/util/Objects"
def TJ15 : u_T := fun k => match k with
  | _ => ("", "", "", false)
def tyJ15 : Nat → FieldType := fun k => match k with
  | _ => .int
abbrev wsJ150 : List Cond := u_ws RJ15 TJ15 0
theorem nmJ15 : ∀ a, a < 0 → ∀ b, b < 0 → a ≠ b → (TJ15 a).2.1 ≠ (TJ15 b).2.1 := by decide +kernel
theorem tyJ15_ok : ∀ k, k < 0 → parseFieldDescriptor (TJ15 k).2.2.1 = some (tyJ15 k) := by decide +kernel
abbrev cJ15_checkIndex_7cf53 : ByteArray := prog_27_method_17_code
def yJ15_checkIndex_7cf53 : MethodName := ⟨RJ15, "checkIndex", "(II)I"⟩
def RJxf0a74 : String := "java/util/RandomAccess"
def TJxf0a74 : u_T := fun k => match k with
  | _ => ("", "", "", false)
def tyJxf0a74 : Nat → FieldType := fun k => match k with
  | _ => .int
abbrev wsJxf0a740 : List Cond := u_ws RJxf0a74 TJxf0a74 0
theorem nmJxf0a74 : ∀ a, a < 0 → ∀ b, b < 0 → a ≠ b → (TJxf0a74 a).2.1 ≠ (TJxf0a74 b).2.1 := by decide +kernel
theorem tyJxf0a74_ok : ∀ k, k < 0 → parseFieldDescriptor (TJxf0a74 k).2.2.1 = some (tyJxf0a74 k) := by decide +kernel
def RJxa66e6 : String := "java/util/SequencedCollection"
def TJxa66e6 : u_T := fun k => match k with
  | _ => ("", "", "", false)
def tyJxa66e6 : Nat → FieldType := fun k => match k with
  | _ => .int
abbrev wsJxa66e60 : List Cond := u_ws RJxa66e6 TJxa66e6 0
theorem nmJxa66e6 : ∀ a, a < 0 → ∀ b, b < 0 → a ≠ b → (TJxa66e6 a).2.1 ≠ (TJxa66e6 b).2.1 := by decide +kernel
theorem tyJxa66e6_ok : ∀ k, k < 0 → parseFieldDescriptor (TJxa66e6 k).2.2.1 = some (tyJxa66e6 k) := by decide +kernel
def RJ8 : String := "jdk/internal/util/ArraysSupport"
def TJ8 : u_T := fun k => match k with
  | _ => ("", "", "", false)
def tyJ8 : Nat → FieldType := fun k => match k with
  | _ => .int
abbrev wsJ80 : List Cond := u_ws RJ8 TJ8 0
theorem nmJ8 : ∀ a, a < 0 → ∀ b, b < 0 → a ≠ b → (TJ8 a).2.1 ≠ (TJ8 b).2.1 := by decide +kernel
theorem tyJ8_ok : ∀ k, k < 0 → parseFieldDescriptor (TJ8 k).2.2.1 = some (tyJ8 k) := by decide +kernel
abbrev cJ8_newLength_cabcc : ByteArray := prog_30_method_27_code
def yJ8_newLength_cabcc : MethodName := ⟨RJ8, "newLength", "(III)I"⟩
abbrev cJ8_hugeLength_7cf53 : ByteArray := prog_30_method_28_code
def yJ8_hugeLength_7cf53 : MethodName := ⟨RJ8, "hugeLength", "(II)I"⟩
def RJ3 : String := "jdk/internal/util/Preconditions"
def TJ3 : u_T := fun k => match k with
  | _ => ("", "", "", false)
def tyJ3 : Nat → FieldType := fun k => match k with
  | _ => .int
abbrev wsJ30 : List Cond := u_ws RJ3 TJ3 0
theorem nmJ3 : ∀ a, a < 0 → ∀ b, b < 0 → a ≠ b → (TJ3 a).2.1 ≠ (TJ3 b).2.1 := by decide +kernel
theorem tyJ3_ok : ∀ k, k < 0 → parseFieldDescriptor (TJ3 k).2.2.1 = some (tyJ3 k) := by decide +kernel
abbrev cJ3_checkIndex_8e157 : ByteArray := prog_31_method_11_code
def yJ3_checkIndex_8e157 : MethodName := ⟨RJ3, "checkIndex", "(IILjava/util/function/BiFunction;)I"⟩
def RL : String := "CoalHulksLaw"
abbrev cL_hulk : ByteArray := method_3_code
def yL_hulk : MethodName := ⟨RL, "hulk", "(LCoalHulks;I[J)I"⟩
abbrev cL_lighter : ByteArray := method_4_code
def yL_lighter : MethodName := ⟨RL, "lighter", "(LCoalHulks;I[J)I"⟩
abbrev cL_gang : ByteArray := method_5_code
def yL_gang : MethodName := ⟨RL, "gang", "(LCoalHulks;I[J)I"⟩
abbrev cL_steamer : ByteArray := method_6_code
def yL_steamer : MethodName := ⟨RL, "steamer", "(LCoalHulks;II[J)I"⟩
abbrev cL_order : ByteArray := method_7_code
def yL_order : MethodName := ⟨RL, "order", "(LCoalHulks;III)I"⟩
abbrev cL_shift : ByteArray := method_8_code
def yL_shift : MethodName := ⟨RL, "shift", "(LCoalHulks;II)I"⟩
abbrev cL_sweep : ByteArray := method_9_code
def yL_sweep : MethodName := ⟨RL, "sweep", "(LCoalHulks;II[J)I"⟩
abbrev cL_hours : ByteArray := method_10_code
def yL_hours : MethodName := ⟨RL, "hours", "(LCoalHulks;I[J)I"⟩
abbrev cL_coalIn : ByteArray := method_11_code
def yL_coalIn : MethodName := ⟨RL, "coalIn", "(LCoalHulks;I[J)I"⟩
abbrev cL_placeOf : ByteArray := method_12_code
def yL_placeOf : MethodName := ⟨RL, "placeOf", "(LCoalHulks;I[J)I"⟩
abbrev cL_loadOf : ByteArray := method_13_code
def yL_loadOf : MethodName := ⟨RL, "loadOf", "(LCoalHulks;I[J)I"⟩
abbrev cL_dustIn : ByteArray := method_14_code
def yL_dustIn : MethodName := ⟨RL, "dustIn", "(LCoalHulks;I[J)I"⟩
abbrev cL_gangOn : ByteArray := method_15_code
def yL_gangOn : MethodName := ⟨RL, "gangOn", "(LCoalHulks;I[J)I"⟩
abbrev cL_restOf : ByteArray := method_16_code
def yL_restOf : MethodName := ⟨RL, "restOf", "(LCoalHulks;I[J)I"⟩
abbrev cL_fateOf : ByteArray := method_17_code
def yL_fateOf : MethodName := ⟨RL, "fateOf", "(LCoalHulks;I[J)I"⟩
abbrev cL_wantOf : ByteArray := method_18_code
def yL_wantOf : MethodName := ⟨RL, "wantOf", "(LCoalHulks;I[J)I"⟩
abbrev cL_outside : ByteArray := method_19_code
def yL_outside : MethodName := ⟨RL, "outside", "(LCoalHulks;I[J)I"⟩
abbrev cL_law : ByteArray := code
def yL_law : MethodName := ⟨RL, "law", "([I)Z"⟩
def wsX0_init : List Cond := .code yX0_init cX0_init 3 none :: ([.methodLink RX0 3 objectInit, .instanceMethod objectInit, .code objectInit ⟨#[0xb1]⟩ 1 none, .fieldLink RX0 9 "CoalHulks$Gang" "number" "I", .fieldLink RX0 15 "CoalHulks$Gang" "men" "I"] ++ wsX00)
def wsX0_isFree : List Cond := .code yX0_isFree cX0_isFree 1 (some .boolean) :: ([.fieldLink RX0 18 "CoalHulks$Gang" "aboard" "Z", .fieldLink RX0 22 "CoalHulks$Gang" "rest" "I"] ++ wsX00)
def wsX0_strength : List Cond := .code yX0_strength cX0_strength 3 (some .int) :: ([.fieldLink RX0 15 "CoalHulks$Gang" "men" "I"] ++ wsX00)
def wsX0_lieDown : List Cond := .code yX0_lieDown cX0_lieDown 1 none :: ([.fieldLink RX0 22 "CoalHulks$Gang" "rest" "I", .fieldLink RX0 25 "CoalHulks$Gang" "hoursCounted" "I"] ++ wsX00)
def wsX1_init : List Cond := .code yX1_init cX1_init 2 none :: ([.methodLink RX1 1 objectInit, .instanceMethod objectInit, .code objectInit ⟨#[0xb1]⟩ 1 none, .fieldLink RX1 7 "CoalHulks$Hulk" "coal" "I"] ++ wsX10)
def wsX2_init : List Cond := .code yX2_init cX2_init 3 none :: ([.methodLink RX2 3 objectInit, .instanceMethod objectInit, .code objectInit ⟨#[0xb1]⟩ 1 none, .fieldLink RX2 9 "CoalHulks$Lighter" "hold" "I", .fieldLink RX2 15 "CoalHulks$Lighter" "home" "LCoalHulks$Hulk;", .fieldLink RX2 19 "CoalHulks$Lighter" "place" "I"] ++ wsX20)
def wsX3_init : List Cond := .code yX3_init cX3_init 3 none :: ([.methodLink RX3 1 objectInit, .instanceMethod objectInit, .code objectInit ⟨#[0xb1]⟩ 1 none, .fieldLink RX3 7 "CoalHulks$Order" "shovellers" "LCoalHulks$Gang;", .fieldLink RX3 13 "CoalHulks$Order" "target" "LCoalHulks$Steamer;"] ++ wsX30)
def wsX4_init : List Cond := .code yX4_init cX4_init 4 none :: ([.methodLink RX4 3 objectInit, .instanceMethod objectInit, .code objectInit ⟨#[0xb1]⟩ 1 none, .fieldLink RX4 9 "CoalHulks$Steamer" "number" "I", .fieldLink RX4 15 "CoalHulks$Steamer" "want" "I", .fieldLink RX4 18 "CoalHulks$Steamer" "patience" "I", .fieldLink RX4 21 "CoalHulks$Steamer" "fate" "I"] ++ wsX40)
def wsX4_hasLeft : List Cond := .code yX4_hasLeft cX4_hasLeft 1 (some .boolean) :: ([.fieldLink RX4 21 "CoalHulks$Steamer" "fate" "I"] ++ wsX40)
def wsJxa1e45_init_da8c8 : List Cond := .code yJxa1e45_init_da8c8 cJxa1e45_init_da8c8 1 none :: ([.methodLink RJxa1e45 1 objectInit, .instanceMethod objectInit, .code objectInit ⟨#[0xb1]⟩ 1 none])
def wsJxc12de_init_da8c8 : List Cond := .code yJxc12de_init_da8c8 cJxc12de_init_da8c8 1 none :: ([.fieldLink RJxc12de 7 "java/util/AbstractList" "modCount" "I", .methodLink RJxc12de 1 yJxa1e45_init_da8c8, .instanceMethod yJxa1e45_init_da8c8, .initialized RJxa1e45, .code yJxa1e45_init_da8c8 cJxa1e45_init_da8c8 1 none, .methodLink RJxa1e45 1 objectInit, .instanceMethod objectInit, .code objectInit ⟨#[0xb1]⟩ 1 none] ++ wsJx4a65c0)
def wsJx4a65c_init_da8c8 : List Cond := .code yJx4a65c_init_da8c8 cJx4a65c_init_da8c8 1 none :: ([.fieldLink RJx4a65c 39 "java/util/ArrayList" "DEFAULTCAPACITY_EMPTY_ELEMENTDATA" "[Ljava/lang/Object;", .fieldLink RJx4a65c 9 "java/util/ArrayList" "elementData" "[Ljava/lang/Object;", .methodLink RJx4a65c 1 yJxc12de_init_da8c8, .instanceMethod yJxc12de_init_da8c8, .initialized RJxc12de, .code yJxc12de_init_da8c8 cJxc12de_init_da8c8 1 none, .fieldLink RJxc12de 7 "java/util/AbstractList" "modCount" "I", .methodLink RJxc12de 1 yJxa1e45_init_da8c8, .instanceMethod yJxa1e45_init_da8c8, .initialized RJxa1e45, .code yJxa1e45_init_da8c8 cJxa1e45_init_da8c8 1 none, .methodLink RJxa1e45 1 objectInit, .instanceMethod objectInit, .code objectInit ⟨#[0xb1]⟩ 1 none] ++ wsJx4a65c0)
def wsX5_init_r1 : List Cond := [Cond.methodLink RX5 1 objectInit, Cond.instanceMethod objectInit, Cond.code objectInit ⟨#[0xb1]⟩ 1 none, Cond.classLink RX5 7 RJx4a65c, Cond.instantiable RJx4a65c 3, Cond.initialized RJx4a65c, Cond.fieldLink RX5 10 "CoalHulks" "hulks" "Ljava/util/ArrayList;", Cond.fieldLink RX5 16 "CoalHulks" "lighters" "Ljava/util/ArrayList;", Cond.fieldLink RX5 19 "CoalHulks" "gangs" "Ljava/util/ArrayList;", Cond.fieldLink RX5 22 "CoalHulks" "steamers" "Ljava/util/ArrayList;", Cond.fieldLink RX5 25 "CoalHulks" "present" "Ljava/util/ArrayList;", Cond.methodLink RX5 9 yJx4a65c_init_da8c8, Cond.instanceMethod yJx4a65c_init_da8c8, Cond.code yJx4a65c_init_da8c8 cJx4a65c_init_da8c8 1 none, Cond.fieldLink RJx4a65c 39 "java/util/ArrayList" "DEFAULTCAPACITY_EMPTY_ELEMENTDATA" "[Ljava/lang/Object;", Cond.fieldLink RJx4a65c 9 "java/util/ArrayList" "elementData" "[Ljava/lang/Object;", Cond.methodLink RJx4a65c 1 yJxc12de_init_da8c8, Cond.instanceMethod yJxc12de_init_da8c8, Cond.initialized RJxc12de, Cond.code yJxc12de_init_da8c8 cJxc12de_init_da8c8 1 none, Cond.fieldLink RJxc12de 7 "java/util/AbstractList" "modCount" "I", Cond.methodLink RJxc12de 1 yJxa1e45_init_da8c8, Cond.instanceMethod yJxa1e45_init_da8c8, Cond.initialized RJxa1e45]
def wsX5_init_r2 : List Cond := [Cond.code yJxa1e45_init_da8c8 cJxa1e45_init_da8c8 1 none, Cond.methodLink RJxa1e45 1 objectInit]
def wsX5_init : List Cond := .code yX5_init cX5_init 1 none :: ((wsX5_init_r1 ++ wsX5_init_r2) ++ wsJx4a65c0 ++ wsX50)
def wsX5_refuseOutOfRange : List Cond := .code yX5_refuseOutOfRange cX5_refuseOutOfRange 3 none :: ([.classLink RX5 170 "java/lang/IllegalArgumentException", .initialized "java/lang/IllegalArgumentException"] ++ (vx_atS RX5 174 "java/lang/IllegalArgumentException" ["java/lang/RuntimeException", "java/lang/Exception"]).filter goodWord)
def wsJx4a65c_size_8abf5 : List Cond := .code yJx4a65c_size_8abf5 cJx4a65c_size_8abf5 1 (some .int) :: ([.fieldLink RJx4a65c 48 "java/util/ArrayList" "size" "I"] ++ wsJx4a65c0)
def wsJ8_hugeLength_7cf53 : List Cond := .code yJ8_hugeLength_7cf53 cJ8_hugeLength_7cf53 3 (some .int) :: ([.constant RJ8 200 (2147483639)])
def wsJ8_newLength_cabcc : List Cond := .code yJ8_newLength_cabcc cJ8_newLength_cabcc 4 (some .int) :: ([.methodLink RJ8 194 Lib.Math.max.name, .static Lib.Math.max.name, .initialized "java/lang/Math", .code Lib.Math.max.name Lib.Math.max.code 2 (some .int), .constant RJ8 200 (2147483639), .methodLink RJ8 201 yJ8_hugeLength_7cf53, .static yJ8_hugeLength_7cf53, .initialized RJ8, .code yJ8_hugeLength_7cf53 cJ8_hugeLength_7cf53 3 (some .int)])
def wsJ7_copyOf_6403c : List Cond := .code yJ7_copyOf_6403c cJ7_copyOf_6403c 4 (some (.array (.object "java/lang/Object"))) :: ([.classLink RJ7 110 "[Ljava/lang/Object;", .classLink RJ7 2 "java/lang/Object", .methodLink RJ7 304 Lib.Math.min.name, .static Lib.Math.min.name, .initialized "java/lang/Math", .code Lib.Math.min.name Lib.Math.min.code 2 (some .int), .methodLink RJ7 150 arraycopyName, .native arraycopyName, .static arraycopyName, .initialized "java/lang/System"])
def wsJ7_copyOf_1904c : List Cond := .code yJ7_copyOf_1904c cJ7_copyOf_1904c 2 (some (.array (.object "java/lang/Object"))) :: ([.methodLink RJ7 86 ⟨"java/lang/Object", "getClass", "()Ljava/lang/Class;"⟩, .selects "[Ljava/lang/Object;" ⟨"java/lang/Object", "getClass", "()Ljava/lang/Class;"⟩ ⟨"java/lang/Object", "getClass", "()Ljava/lang/Class;"⟩, .instanceMethod ⟨"java/lang/Object", "getClass", "()Ljava/lang/Class;"⟩, .native ⟨"java/lang/Object", "getClass", "()Ljava/lang/Class;"⟩, .methodLink RJ7 300 yJ7_copyOf_6403c, .static yJ7_copyOf_6403c, .initialized RJ7, .code yJ7_copyOf_6403c cJ7_copyOf_6403c 4 (some (.array (.object "java/lang/Object"))), .classLink RJ7 110 "[Ljava/lang/Object;", .classLink RJ7 2 "java/lang/Object", .methodLink RJ7 304 Lib.Math.min.name, .static Lib.Math.min.name, .initialized "java/lang/Math", .code Lib.Math.min.name Lib.Math.min.code 2 (some .int), .methodLink RJ7 150 arraycopyName, .native arraycopyName, .static arraycopyName, .initialized "java/lang/System"])
def wsJx4a65c_grow_92f84_r1 : List Cond := [Cond.fieldLink RJx4a65c 9 "java/util/ArrayList" "elementData" "[Ljava/lang/Object;", Cond.fieldLink RJx4a65c 39 "java/util/ArrayList" "DEFAULTCAPACITY_EMPTY_ELEMENTDATA" "[Ljava/lang/Object;", Cond.methodLink RJx4a65c 79 Lib.Math.max.name, Cond.static Lib.Math.max.name, Cond.initialized "java/lang/Math", Cond.code Lib.Math.max.name Lib.Math.max.code 2 (some .int), Cond.classLink RJx4a65c 7 "java/lang/Object", Cond.methodLink RJx4a65c 73 yJ8_newLength_cabcc, Cond.static yJ8_newLength_cabcc, Cond.initialized RJ8, Cond.code yJ8_newLength_cabcc cJ8_newLength_cabcc 4 (some .int), Cond.methodLink RJ8 194 Lib.Math.max.name, Cond.constant RJ8 200 (2147483639), Cond.methodLink RJ8 201 yJ8_hugeLength_7cf53, Cond.static yJ8_hugeLength_7cf53, Cond.code yJ8_hugeLength_7cf53 cJ8_hugeLength_7cf53 3 (some .int), Cond.methodLink RJx4a65c 66 yJ7_copyOf_1904c, Cond.static yJ7_copyOf_1904c, Cond.initialized RJ7, Cond.code yJ7_copyOf_1904c cJ7_copyOf_1904c 2 (some (.array (.object "java/lang/Object"))), Cond.methodLink RJ7 86 ⟨"java/lang/Object", "getClass", "()Ljava/lang/Class;"⟩, Cond.selects "[Ljava/lang/Object;" ⟨"java/lang/Object", "getClass", "()Ljava/lang/Class;"⟩ ⟨"java/lang/Object", "getClass", "()Ljava/lang/Class;"⟩, Cond.instanceMethod ⟨"java/lang/Object", "getClass", "()Ljava/lang/Class;"⟩, Cond.native ⟨"java/lang/Object", "getClass", "()Ljava/lang/Class;"⟩]
def wsJx4a65c_grow_92f84_r2 : List Cond := [Cond.methodLink RJ7 300 yJ7_copyOf_6403c, Cond.static yJ7_copyOf_6403c, Cond.code yJ7_copyOf_6403c cJ7_copyOf_6403c 4 (some (.array (.object "java/lang/Object"))), Cond.classLink RJ7 110 "[Ljava/lang/Object;", Cond.classLink RJ7 2 "java/lang/Object", Cond.methodLink RJ7 304 Lib.Math.min.name, Cond.static Lib.Math.min.name, Cond.code Lib.Math.min.name Lib.Math.min.code 2 (some .int), Cond.methodLink RJ7 150 arraycopyName, Cond.native arraycopyName, Cond.static arraycopyName, Cond.initialized "java/lang/System"]
def wsJx4a65c_grow_92f84 : List Cond := .code yJx4a65c_grow_92f84 cJx4a65c_grow_92f84 4 (some (.array (.object "java/lang/Object"))) :: ((wsJx4a65c_grow_92f84_r1 ++ wsJx4a65c_grow_92f84_r2) ++ wsJx4a65c0)
def wsJx4a65c_grow_d5877_r1 : List Cond := [Cond.fieldLink RJx4a65c 48 "java/util/ArrayList" "size" "I", Cond.methodLink RJx4a65c 69 yJx4a65c_grow_92f84, Cond.instanceMethod yJx4a65c_grow_92f84, Cond.selects RJx4a65c yJx4a65c_grow_92f84 yJx4a65c_grow_92f84, Cond.initialized RJx4a65c, Cond.code yJx4a65c_grow_92f84 cJx4a65c_grow_92f84 4 (some (.array (.object "java/lang/Object"))), Cond.fieldLink RJx4a65c 9 "java/util/ArrayList" "elementData" "[Ljava/lang/Object;", Cond.fieldLink RJx4a65c 39 "java/util/ArrayList" "DEFAULTCAPACITY_EMPTY_ELEMENTDATA" "[Ljava/lang/Object;", Cond.methodLink RJx4a65c 79 Lib.Math.max.name, Cond.static Lib.Math.max.name, Cond.initialized "java/lang/Math", Cond.code Lib.Math.max.name Lib.Math.max.code 2 (some .int), Cond.classLink RJx4a65c 7 "java/lang/Object", Cond.methodLink RJx4a65c 73 yJ8_newLength_cabcc, Cond.static yJ8_newLength_cabcc, Cond.initialized RJ8, Cond.code yJ8_newLength_cabcc cJ8_newLength_cabcc 4 (some .int), Cond.methodLink RJ8 194 Lib.Math.max.name, Cond.constant RJ8 200 (2147483639), Cond.methodLink RJ8 201 yJ8_hugeLength_7cf53, Cond.static yJ8_hugeLength_7cf53, Cond.code yJ8_hugeLength_7cf53 cJ8_hugeLength_7cf53 3 (some .int), Cond.methodLink RJx4a65c 66 yJ7_copyOf_1904c, Cond.static yJ7_copyOf_1904c]
def wsJx4a65c_grow_d5877_r2 : List Cond := [Cond.initialized RJ7, Cond.code yJ7_copyOf_1904c cJ7_copyOf_1904c 2 (some (.array (.object "java/lang/Object"))), Cond.methodLink RJ7 86 ⟨"java/lang/Object", "getClass", "()Ljava/lang/Class;"⟩, Cond.selects "[Ljava/lang/Object;" ⟨"java/lang/Object", "getClass", "()Ljava/lang/Class;"⟩ ⟨"java/lang/Object", "getClass", "()Ljava/lang/Class;"⟩, Cond.instanceMethod ⟨"java/lang/Object", "getClass", "()Ljava/lang/Class;"⟩, Cond.native ⟨"java/lang/Object", "getClass", "()Ljava/lang/Class;"⟩, Cond.methodLink RJ7 300 yJ7_copyOf_6403c, Cond.static yJ7_copyOf_6403c, Cond.code yJ7_copyOf_6403c cJ7_copyOf_6403c 4 (some (.array (.object "java/lang/Object"))), Cond.classLink RJ7 110 "[Ljava/lang/Object;", Cond.classLink RJ7 2 "java/lang/Object", Cond.methodLink RJ7 304 Lib.Math.min.name, Cond.static Lib.Math.min.name, Cond.code Lib.Math.min.name Lib.Math.min.code 2 (some .int), Cond.methodLink RJ7 150 arraycopyName, Cond.native arraycopyName, Cond.static arraycopyName, Cond.initialized "java/lang/System"]
def wsJx4a65c_grow_d5877 : List Cond := .code yJx4a65c_grow_d5877 cJx4a65c_grow_d5877 1 (some (.array (.object "java/lang/Object"))) :: ((wsJx4a65c_grow_d5877_r1 ++ wsJx4a65c_grow_d5877_r2) ++ wsJx4a65c0)
def wsJx4a65c_add_72be8_r1 : List Cond := [Cond.fieldLink RJx4a65c 48 "java/util/ArrayList" "size" "I", Cond.methodLink RJx4a65c 129 yJx4a65c_grow_d5877, Cond.instanceMethod yJx4a65c_grow_d5877, Cond.selects RJx4a65c yJx4a65c_grow_d5877 yJx4a65c_grow_d5877, Cond.initialized RJx4a65c, Cond.code yJx4a65c_grow_d5877 cJx4a65c_grow_d5877 1 (some (.array (.object "java/lang/Object"))), Cond.methodLink RJx4a65c 69 yJx4a65c_grow_92f84, Cond.instanceMethod yJx4a65c_grow_92f84, Cond.selects RJx4a65c yJx4a65c_grow_92f84 yJx4a65c_grow_92f84, Cond.code yJx4a65c_grow_92f84 cJx4a65c_grow_92f84 4 (some (.array (.object "java/lang/Object"))), Cond.fieldLink RJx4a65c 9 "java/util/ArrayList" "elementData" "[Ljava/lang/Object;", Cond.fieldLink RJx4a65c 39 "java/util/ArrayList" "DEFAULTCAPACITY_EMPTY_ELEMENTDATA" "[Ljava/lang/Object;", Cond.methodLink RJx4a65c 79 Lib.Math.max.name, Cond.static Lib.Math.max.name, Cond.initialized "java/lang/Math", Cond.code Lib.Math.max.name Lib.Math.max.code 2 (some .int), Cond.classLink RJx4a65c 7 "java/lang/Object", Cond.methodLink RJx4a65c 73 yJ8_newLength_cabcc, Cond.static yJ8_newLength_cabcc, Cond.initialized RJ8, Cond.code yJ8_newLength_cabcc cJ8_newLength_cabcc 4 (some .int), Cond.methodLink RJ8 194 Lib.Math.max.name, Cond.constant RJ8 200 (2147483639), Cond.methodLink RJ8 201 yJ8_hugeLength_7cf53]
def wsJx4a65c_add_72be8_r2 : List Cond := [Cond.static yJ8_hugeLength_7cf53, Cond.code yJ8_hugeLength_7cf53 cJ8_hugeLength_7cf53 3 (some .int), Cond.methodLink RJx4a65c 66 yJ7_copyOf_1904c, Cond.static yJ7_copyOf_1904c, Cond.initialized RJ7, Cond.code yJ7_copyOf_1904c cJ7_copyOf_1904c 2 (some (.array (.object "java/lang/Object"))), Cond.methodLink RJ7 86 ⟨"java/lang/Object", "getClass", "()Ljava/lang/Class;"⟩, Cond.selects "[Ljava/lang/Object;" ⟨"java/lang/Object", "getClass", "()Ljava/lang/Class;"⟩ ⟨"java/lang/Object", "getClass", "()Ljava/lang/Class;"⟩, Cond.instanceMethod ⟨"java/lang/Object", "getClass", "()Ljava/lang/Class;"⟩, Cond.native ⟨"java/lang/Object", "getClass", "()Ljava/lang/Class;"⟩, Cond.methodLink RJ7 300 yJ7_copyOf_6403c, Cond.static yJ7_copyOf_6403c, Cond.code yJ7_copyOf_6403c cJ7_copyOf_6403c 4 (some (.array (.object "java/lang/Object"))), Cond.classLink RJ7 110 "[Ljava/lang/Object;", Cond.classLink RJ7 2 "java/lang/Object", Cond.methodLink RJ7 304 Lib.Math.min.name, Cond.static Lib.Math.min.name, Cond.code Lib.Math.min.name Lib.Math.min.code 2 (some .int), Cond.methodLink RJ7 150 arraycopyName, Cond.native arraycopyName, Cond.static arraycopyName, Cond.initialized "java/lang/System"]
def wsJx4a65c_add_72be8 : List Cond := .code yJx4a65c_add_72be8 cJx4a65c_add_72be8 4 none :: ((wsJx4a65c_add_72be8_r1 ++ wsJx4a65c_add_72be8_r2) ++ wsJx4a65c0)
def wsJx4a65c_add_9ea2d_r1 : List Cond := [Cond.fieldLink RJx4a65c 63 "java/util/ArrayList" "modCount" "I", Cond.sameField "java/util/ArrayList" "java/util/AbstractList" "modCount" "I", Cond.fieldLink RJx4a65c 9 "java/util/ArrayList" "elementData" "[Ljava/lang/Object;", Cond.fieldLink RJx4a65c 48 "java/util/ArrayList" "size" "I", Cond.methodLink RJx4a65c 131 yJx4a65c_add_72be8, Cond.instanceMethod yJx4a65c_add_72be8, Cond.selects RJx4a65c yJx4a65c_add_72be8 yJx4a65c_add_72be8, Cond.initialized RJx4a65c, Cond.code yJx4a65c_add_72be8 cJx4a65c_add_72be8 4 none, Cond.methodLink RJx4a65c 129 yJx4a65c_grow_d5877, Cond.instanceMethod yJx4a65c_grow_d5877, Cond.selects RJx4a65c yJx4a65c_grow_d5877 yJx4a65c_grow_d5877, Cond.code yJx4a65c_grow_d5877 cJx4a65c_grow_d5877 1 (some (.array (.object "java/lang/Object"))), Cond.methodLink RJx4a65c 69 yJx4a65c_grow_92f84, Cond.instanceMethod yJx4a65c_grow_92f84, Cond.selects RJx4a65c yJx4a65c_grow_92f84 yJx4a65c_grow_92f84, Cond.code yJx4a65c_grow_92f84 cJx4a65c_grow_92f84 4 (some (.array (.object "java/lang/Object"))), Cond.fieldLink RJx4a65c 39 "java/util/ArrayList" "DEFAULTCAPACITY_EMPTY_ELEMENTDATA" "[Ljava/lang/Object;", Cond.methodLink RJx4a65c 79 Lib.Math.max.name, Cond.static Lib.Math.max.name, Cond.initialized "java/lang/Math", Cond.code Lib.Math.max.name Lib.Math.max.code 2 (some .int), Cond.classLink RJx4a65c 7 "java/lang/Object", Cond.methodLink RJx4a65c 73 yJ8_newLength_cabcc]
def wsJx4a65c_add_9ea2d_r2 : List Cond := [Cond.static yJ8_newLength_cabcc, Cond.initialized RJ8, Cond.code yJ8_newLength_cabcc cJ8_newLength_cabcc 4 (some .int), Cond.methodLink RJ8 194 Lib.Math.max.name, Cond.constant RJ8 200 (2147483639), Cond.methodLink RJ8 201 yJ8_hugeLength_7cf53, Cond.static yJ8_hugeLength_7cf53, Cond.code yJ8_hugeLength_7cf53 cJ8_hugeLength_7cf53 3 (some .int), Cond.methodLink RJx4a65c 66 yJ7_copyOf_1904c, Cond.static yJ7_copyOf_1904c, Cond.initialized RJ7, Cond.code yJ7_copyOf_1904c cJ7_copyOf_1904c 2 (some (.array (.object "java/lang/Object"))), Cond.methodLink RJ7 86 ⟨"java/lang/Object", "getClass", "()Ljava/lang/Class;"⟩, Cond.selects "[Ljava/lang/Object;" ⟨"java/lang/Object", "getClass", "()Ljava/lang/Class;"⟩ ⟨"java/lang/Object", "getClass", "()Ljava/lang/Class;"⟩, Cond.instanceMethod ⟨"java/lang/Object", "getClass", "()Ljava/lang/Class;"⟩, Cond.native ⟨"java/lang/Object", "getClass", "()Ljava/lang/Class;"⟩, Cond.methodLink RJ7 300 yJ7_copyOf_6403c, Cond.static yJ7_copyOf_6403c, Cond.code yJ7_copyOf_6403c cJ7_copyOf_6403c 4 (some (.array (.object "java/lang/Object"))), Cond.classLink RJ7 110 "[Ljava/lang/Object;", Cond.classLink RJ7 2 "java/lang/Object", Cond.methodLink RJ7 304 Lib.Math.min.name, Cond.static Lib.Math.min.name, Cond.code Lib.Math.min.name Lib.Math.min.code 2 (some .int)]
def wsJx4a65c_add_9ea2d_r3 : List Cond := [Cond.methodLink RJ7 150 arraycopyName, Cond.native arraycopyName, Cond.static arraycopyName, Cond.initialized "java/lang/System"]
def wsJx4a65c_add_9ea2d : List Cond := .code yJx4a65c_add_9ea2d cJx4a65c_add_9ea2d 2 (some .boolean) :: ((wsJx4a65c_add_9ea2d_r1 ++ (wsJx4a65c_add_9ea2d_r2 ++ wsJx4a65c_add_9ea2d_r3)) ++ wsJx4a65c0)
def wsX5_hulk_r1 : List Cond := [Cond.classLink RX5 36 "java/lang/IllegalStateException", Cond.initialized "java/lang/IllegalStateException", Cond.fieldLink RX5 10 "CoalHulks" "hulks" "Ljava/util/ArrayList;", Cond.classLink RX5 43 RX1, Cond.instantiable RX1 1, Cond.initialized RX1, Cond.methodLink RX5 28 yX5_refuseOutOfRange, Cond.static yX5_refuseOutOfRange, Cond.initialized RX5, Cond.code yX5_refuseOutOfRange cX5_refuseOutOfRange 3 none, Cond.classLink RX5 170 "java/lang/IllegalArgumentException", Cond.initialized "java/lang/IllegalArgumentException", Cond.methodLink RX5 32 yJx4a65c_size_8abf5, Cond.instanceMethod yJx4a65c_size_8abf5, Cond.selects RJx4a65c yJx4a65c_size_8abf5 yJx4a65c_size_8abf5, Cond.initialized RJx4a65c, Cond.code yJx4a65c_size_8abf5 cJx4a65c_size_8abf5 1 (some .int), Cond.fieldLink RJx4a65c 48 "java/util/ArrayList" "size" "I", Cond.methodLink RX5 45 yX1_init, Cond.instanceMethod yX1_init, Cond.code yX1_init cX1_init 2 none, Cond.methodLink RX1 1 objectInit, Cond.instanceMethod objectInit, Cond.code objectInit ⟨#[0xb1]⟩ 1 none]
def wsX5_hulk_r2 : List Cond := [Cond.fieldLink RX1 7 "CoalHulks$Hulk" "coal" "I", Cond.methodLink RX5 48 yJx4a65c_add_9ea2d, Cond.instanceMethod yJx4a65c_add_9ea2d, Cond.selects RJx4a65c yJx4a65c_add_9ea2d yJx4a65c_add_9ea2d, Cond.code yJx4a65c_add_9ea2d cJx4a65c_add_9ea2d 2 (some .boolean), Cond.fieldLink RJx4a65c 63 "java/util/ArrayList" "modCount" "I", Cond.sameField "java/util/ArrayList" "java/util/AbstractList" "modCount" "I", Cond.fieldLink RJx4a65c 9 "java/util/ArrayList" "elementData" "[Ljava/lang/Object;", Cond.methodLink RJx4a65c 131 yJx4a65c_add_72be8, Cond.instanceMethod yJx4a65c_add_72be8, Cond.selects RJx4a65c yJx4a65c_add_72be8 yJx4a65c_add_72be8, Cond.code yJx4a65c_add_72be8 cJx4a65c_add_72be8 4 none, Cond.methodLink RJx4a65c 129 yJx4a65c_grow_d5877, Cond.instanceMethod yJx4a65c_grow_d5877, Cond.selects RJx4a65c yJx4a65c_grow_d5877 yJx4a65c_grow_d5877, Cond.code yJx4a65c_grow_d5877 cJx4a65c_grow_d5877 1 (some (.array (.object "java/lang/Object"))), Cond.methodLink RJx4a65c 69 yJx4a65c_grow_92f84, Cond.instanceMethod yJx4a65c_grow_92f84, Cond.selects RJx4a65c yJx4a65c_grow_92f84 yJx4a65c_grow_92f84, Cond.code yJx4a65c_grow_92f84 cJx4a65c_grow_92f84 4 (some (.array (.object "java/lang/Object"))), Cond.fieldLink RJx4a65c 39 "java/util/ArrayList" "DEFAULTCAPACITY_EMPTY_ELEMENTDATA" "[Ljava/lang/Object;", Cond.methodLink RJx4a65c 79 Lib.Math.max.name, Cond.static Lib.Math.max.name, Cond.initialized "java/lang/Math"]
def wsX5_hulk_r3 : List Cond := [Cond.code Lib.Math.max.name Lib.Math.max.code 2 (some .int), Cond.classLink RJx4a65c 7 "java/lang/Object", Cond.methodLink RJx4a65c 73 yJ8_newLength_cabcc, Cond.static yJ8_newLength_cabcc, Cond.initialized RJ8, Cond.code yJ8_newLength_cabcc cJ8_newLength_cabcc 4 (some .int), Cond.methodLink RJ8 194 Lib.Math.max.name, Cond.constant RJ8 200 (2147483639), Cond.methodLink RJ8 201 yJ8_hugeLength_7cf53, Cond.static yJ8_hugeLength_7cf53, Cond.code yJ8_hugeLength_7cf53 cJ8_hugeLength_7cf53 3 (some .int), Cond.methodLink RJx4a65c 66 yJ7_copyOf_1904c, Cond.static yJ7_copyOf_1904c, Cond.initialized RJ7, Cond.code yJ7_copyOf_1904c cJ7_copyOf_1904c 2 (some (.array (.object "java/lang/Object"))), Cond.methodLink RJ7 86 ⟨"java/lang/Object", "getClass", "()Ljava/lang/Class;"⟩, Cond.selects "[Ljava/lang/Object;" ⟨"java/lang/Object", "getClass", "()Ljava/lang/Class;"⟩ ⟨"java/lang/Object", "getClass", "()Ljava/lang/Class;"⟩, Cond.instanceMethod ⟨"java/lang/Object", "getClass", "()Ljava/lang/Class;"⟩, Cond.native ⟨"java/lang/Object", "getClass", "()Ljava/lang/Class;"⟩, Cond.methodLink RJ7 300 yJ7_copyOf_6403c, Cond.static yJ7_copyOf_6403c, Cond.code yJ7_copyOf_6403c cJ7_copyOf_6403c 4 (some (.array (.object "java/lang/Object"))), Cond.classLink RJ7 110 "[Ljava/lang/Object;", Cond.classLink RJ7 2 "java/lang/Object"]
def wsX5_hulk_r4 : List Cond := [Cond.methodLink RJ7 304 Lib.Math.min.name, Cond.static Lib.Math.min.name, Cond.code Lib.Math.min.name Lib.Math.min.code 2 (some .int), Cond.methodLink RJ7 150 arraycopyName, Cond.native arraycopyName, Cond.static arraycopyName, Cond.initialized "java/lang/System"]
def wsX5_hulk : List Cond := .code yX5_hulk cX5_hulk 3 (some .int) :: ((wsX5_hulk_r1 ++ (wsX5_hulk_r2 ++ (wsX5_hulk_r3 ++ wsX5_hulk_r4))) ++ wsX50 ++ wsX10 ++ wsJx4a65c0 ++ (vx_atS RX5 40 "java/lang/IllegalStateException" ["java/lang/RuntimeException", "java/lang/Exception"]).filter goodWord ++ (vx_atS RX5 174 "java/lang/IllegalArgumentException" ["java/lang/RuntimeException", "java/lang/Exception"]).filter goodWord)
def wsJx4a65c_isEmpty_aae02 : List Cond := .code yJx4a65c_isEmpty_aae02 cJx4a65c_isEmpty_aae02 1 (some .boolean) :: ([.fieldLink RJx4a65c 48 "java/util/ArrayList" "size" "I"] ++ wsJx4a65c0)
def wsJ3_checkIndex_8e157 : List Cond := .code yJ3_checkIndex_8e157 cJ3_checkIndex_8e157 3 (some .int) :: ([])
def wsJ15_checkIndex_7cf53 : List Cond := .code yJ15_checkIndex_7cf53 cJ15_checkIndex_7cf53 2 (some .int) :: ([.methodLink RJ15 105 yJ3_checkIndex_8e157, .static yJ3_checkIndex_8e157, .initialized RJ3, .code yJ3_checkIndex_8e157 cJ3_checkIndex_8e157 3 (some .int)])
def wsJx4a65c_elementData_915e3 : List Cond := .code yJx4a65c_elementData_915e3 cJx4a65c_elementData_915e3 2 (some (.object "java/lang/Object")) :: ([.fieldLink RJx4a65c 9 "java/util/ArrayList" "elementData" "[Ljava/lang/Object;"] ++ wsJx4a65c0)
def wsJx4a65c_get_915e3 : List Cond := .code yJx4a65c_get_915e3 cJx4a65c_get_915e3 2 (some (.object "java/lang/Object")) :: ([.fieldLink RJx4a65c 48 "java/util/ArrayList" "size" "I", .methodLink RJx4a65c 118 yJ15_checkIndex_7cf53, .static yJ15_checkIndex_7cf53, .initialized RJ15, .code yJ15_checkIndex_7cf53 cJ15_checkIndex_7cf53 2 (some .int), .methodLink RJ15 105 yJ3_checkIndex_8e157, .static yJ3_checkIndex_8e157, .initialized RJ3, .code yJ3_checkIndex_8e157 cJ3_checkIndex_8e157 3 (some .int), .methodLink RJx4a65c 123 yJx4a65c_elementData_915e3, .instanceMethod yJx4a65c_elementData_915e3, .selects RJx4a65c yJx4a65c_elementData_915e3 yJx4a65c_elementData_915e3, .initialized RJx4a65c, .code yJx4a65c_elementData_915e3 cJx4a65c_elementData_915e3 2 (some (.object "java/lang/Object")), .fieldLink RJx4a65c 9 "java/util/ArrayList" "elementData" "[Ljava/lang/Object;"] ++ wsJx4a65c0)
def wsX5_lighter_r1 : List Cond := [Cond.classLink RX5 36 "java/lang/IllegalStateException", Cond.initialized "java/lang/IllegalStateException", Cond.fieldLink RX5 16 "CoalHulks" "lighters" "Ljava/util/ArrayList;", Cond.fieldLink RX5 10 "CoalHulks" "hulks" "Ljava/util/ArrayList;", Cond.classLink RX5 60 RX2, Cond.instantiable RX2 7, Cond.initialized RX2, Cond.classLink RX5 43 "CoalHulks$Hulk", Cond.methodLink RX5 28 yX5_refuseOutOfRange, Cond.static yX5_refuseOutOfRange, Cond.initialized RX5, Cond.code yX5_refuseOutOfRange cX5_refuseOutOfRange 3 none, Cond.classLink RX5 170 "java/lang/IllegalArgumentException", Cond.initialized "java/lang/IllegalArgumentException", Cond.methodLink RX5 32 yJx4a65c_size_8abf5, Cond.instanceMethod yJx4a65c_size_8abf5, Cond.selects RJx4a65c yJx4a65c_size_8abf5 yJx4a65c_size_8abf5, Cond.initialized RJx4a65c, Cond.code yJx4a65c_size_8abf5 cJx4a65c_size_8abf5 1 (some .int), Cond.fieldLink RJx4a65c 48 "java/util/ArrayList" "size" "I", Cond.methodLink RX5 54 yJx4a65c_isEmpty_aae02, Cond.instanceMethod yJx4a65c_isEmpty_aae02, Cond.selects RJx4a65c yJx4a65c_isEmpty_aae02 yJx4a65c_isEmpty_aae02, Cond.code yJx4a65c_isEmpty_aae02 cJx4a65c_isEmpty_aae02 1 (some .boolean)]
def wsX5_lighter_r2 : List Cond := [Cond.methodLink RX5 62 yJx4a65c_get_915e3, Cond.instanceMethod yJx4a65c_get_915e3, Cond.selects RJx4a65c yJx4a65c_get_915e3 yJx4a65c_get_915e3, Cond.code yJx4a65c_get_915e3 cJx4a65c_get_915e3 2 (some (.object "java/lang/Object")), Cond.methodLink RJx4a65c 118 yJ15_checkIndex_7cf53, Cond.static yJ15_checkIndex_7cf53, Cond.initialized RJ15, Cond.code yJ15_checkIndex_7cf53 cJ15_checkIndex_7cf53 2 (some .int), Cond.methodLink RJ15 105 yJ3_checkIndex_8e157, Cond.static yJ3_checkIndex_8e157, Cond.initialized RJ3, Cond.code yJ3_checkIndex_8e157 cJ3_checkIndex_8e157 3 (some .int), Cond.methodLink RJx4a65c 123 yJx4a65c_elementData_915e3, Cond.instanceMethod yJx4a65c_elementData_915e3, Cond.selects RJx4a65c yJx4a65c_elementData_915e3 yJx4a65c_elementData_915e3, Cond.code yJx4a65c_elementData_915e3 cJx4a65c_elementData_915e3 2 (some (.object "java/lang/Object")), Cond.fieldLink RJx4a65c 9 "java/util/ArrayList" "elementData" "[Ljava/lang/Object;", Cond.methodLink RX5 66 yX2_init, Cond.instanceMethod yX2_init, Cond.code yX2_init cX2_init 3 none, Cond.methodLink RX2 3 objectInit, Cond.instanceMethod objectInit, Cond.code objectInit ⟨#[0xb1]⟩ 1 none, Cond.fieldLink RX2 9 "CoalHulks$Lighter" "hold" "I"]
def wsX5_lighter_r3 : List Cond := [Cond.fieldLink RX2 15 "CoalHulks$Lighter" "home" "LCoalHulks$Hulk;", Cond.fieldLink RX2 19 "CoalHulks$Lighter" "place" "I", Cond.methodLink RX5 48 yJx4a65c_add_9ea2d, Cond.instanceMethod yJx4a65c_add_9ea2d, Cond.selects RJx4a65c yJx4a65c_add_9ea2d yJx4a65c_add_9ea2d, Cond.code yJx4a65c_add_9ea2d cJx4a65c_add_9ea2d 2 (some .boolean), Cond.fieldLink RJx4a65c 63 "java/util/ArrayList" "modCount" "I", Cond.sameField "java/util/ArrayList" "java/util/AbstractList" "modCount" "I", Cond.methodLink RJx4a65c 131 yJx4a65c_add_72be8, Cond.instanceMethod yJx4a65c_add_72be8, Cond.selects RJx4a65c yJx4a65c_add_72be8 yJx4a65c_add_72be8, Cond.code yJx4a65c_add_72be8 cJx4a65c_add_72be8 4 none, Cond.methodLink RJx4a65c 129 yJx4a65c_grow_d5877, Cond.instanceMethod yJx4a65c_grow_d5877, Cond.selects RJx4a65c yJx4a65c_grow_d5877 yJx4a65c_grow_d5877, Cond.code yJx4a65c_grow_d5877 cJx4a65c_grow_d5877 1 (some (.array (.object "java/lang/Object"))), Cond.methodLink RJx4a65c 69 yJx4a65c_grow_92f84, Cond.instanceMethod yJx4a65c_grow_92f84, Cond.selects RJx4a65c yJx4a65c_grow_92f84 yJx4a65c_grow_92f84, Cond.code yJx4a65c_grow_92f84 cJx4a65c_grow_92f84 4 (some (.array (.object "java/lang/Object"))), Cond.fieldLink RJx4a65c 39 "java/util/ArrayList" "DEFAULTCAPACITY_EMPTY_ELEMENTDATA" "[Ljava/lang/Object;", Cond.methodLink RJx4a65c 79 Lib.Math.max.name, Cond.static Lib.Math.max.name, Cond.initialized "java/lang/Math"]
def wsX5_lighter_r4 : List Cond := [Cond.code Lib.Math.max.name Lib.Math.max.code 2 (some .int), Cond.classLink RJx4a65c 7 "java/lang/Object", Cond.methodLink RJx4a65c 73 yJ8_newLength_cabcc, Cond.static yJ8_newLength_cabcc, Cond.initialized RJ8, Cond.code yJ8_newLength_cabcc cJ8_newLength_cabcc 4 (some .int), Cond.methodLink RJ8 194 Lib.Math.max.name, Cond.constant RJ8 200 (2147483639), Cond.methodLink RJ8 201 yJ8_hugeLength_7cf53, Cond.static yJ8_hugeLength_7cf53, Cond.code yJ8_hugeLength_7cf53 cJ8_hugeLength_7cf53 3 (some .int), Cond.methodLink RJx4a65c 66 yJ7_copyOf_1904c, Cond.static yJ7_copyOf_1904c, Cond.initialized RJ7, Cond.code yJ7_copyOf_1904c cJ7_copyOf_1904c 2 (some (.array (.object "java/lang/Object"))), Cond.methodLink RJ7 86 ⟨"java/lang/Object", "getClass", "()Ljava/lang/Class;"⟩, Cond.selects "[Ljava/lang/Object;" ⟨"java/lang/Object", "getClass", "()Ljava/lang/Class;"⟩ ⟨"java/lang/Object", "getClass", "()Ljava/lang/Class;"⟩, Cond.instanceMethod ⟨"java/lang/Object", "getClass", "()Ljava/lang/Class;"⟩, Cond.native ⟨"java/lang/Object", "getClass", "()Ljava/lang/Class;"⟩, Cond.methodLink RJ7 300 yJ7_copyOf_6403c, Cond.static yJ7_copyOf_6403c, Cond.code yJ7_copyOf_6403c cJ7_copyOf_6403c 4 (some (.array (.object "java/lang/Object"))), Cond.classLink RJ7 110 "[Ljava/lang/Object;", Cond.classLink RJ7 2 "java/lang/Object"]
def wsX5_lighter_r5 : List Cond := [Cond.methodLink RJ7 304 Lib.Math.min.name, Cond.static Lib.Math.min.name, Cond.code Lib.Math.min.name Lib.Math.min.code 2 (some .int), Cond.methodLink RJ7 150 arraycopyName, Cond.native arraycopyName, Cond.static arraycopyName, Cond.initialized "java/lang/System"]
def wsX5_lighter : List Cond := .code yX5_lighter cX5_lighter 3 (some .int) :: ((wsX5_lighter_r1 ++ (wsX5_lighter_r2 ++ (wsX5_lighter_r3 ++ (wsX5_lighter_r4 ++ wsX5_lighter_r5)))) ++ wsX50 ++ wsX20 ++ wsJx4a65c0 ++ (vx_atS RX5 40 "java/lang/IllegalStateException" ["java/lang/RuntimeException", "java/lang/Exception"]).filter goodWord ++ (vx_atS RX5 174 "java/lang/IllegalArgumentException" ["java/lang/RuntimeException", "java/lang/Exception"]).filter goodWord)
def wsX5_gang_r1 : List Cond := [Cond.classLink RX5 36 "java/lang/IllegalStateException", Cond.initialized "java/lang/IllegalStateException", Cond.fieldLink RX5 19 "CoalHulks" "gangs" "Ljava/util/ArrayList;", Cond.classLink RX5 71 RX0, Cond.instantiable RX0 5, Cond.initialized RX0, Cond.methodLink RX5 28 yX5_refuseOutOfRange, Cond.static yX5_refuseOutOfRange, Cond.initialized RX5, Cond.code yX5_refuseOutOfRange cX5_refuseOutOfRange 3 none, Cond.classLink RX5 170 "java/lang/IllegalArgumentException", Cond.initialized "java/lang/IllegalArgumentException", Cond.methodLink RX5 32 yJx4a65c_size_8abf5, Cond.instanceMethod yJx4a65c_size_8abf5, Cond.selects RJx4a65c yJx4a65c_size_8abf5 yJx4a65c_size_8abf5, Cond.initialized RJx4a65c, Cond.code yJx4a65c_size_8abf5 cJx4a65c_size_8abf5 1 (some .int), Cond.fieldLink RJx4a65c 48 "java/util/ArrayList" "size" "I", Cond.methodLink RX5 73 yX0_init, Cond.instanceMethod yX0_init, Cond.code yX0_init cX0_init 3 none, Cond.methodLink RX0 3 objectInit, Cond.instanceMethod objectInit, Cond.code objectInit ⟨#[0xb1]⟩ 1 none]
def wsX5_gang_r2 : List Cond := [Cond.fieldLink RX0 9 "CoalHulks$Gang" "number" "I", Cond.fieldLink RX0 15 "CoalHulks$Gang" "men" "I", Cond.methodLink RX5 48 yJx4a65c_add_9ea2d, Cond.instanceMethod yJx4a65c_add_9ea2d, Cond.selects RJx4a65c yJx4a65c_add_9ea2d yJx4a65c_add_9ea2d, Cond.code yJx4a65c_add_9ea2d cJx4a65c_add_9ea2d 2 (some .boolean), Cond.fieldLink RJx4a65c 63 "java/util/ArrayList" "modCount" "I", Cond.sameField "java/util/ArrayList" "java/util/AbstractList" "modCount" "I", Cond.fieldLink RJx4a65c 9 "java/util/ArrayList" "elementData" "[Ljava/lang/Object;", Cond.methodLink RJx4a65c 131 yJx4a65c_add_72be8, Cond.instanceMethod yJx4a65c_add_72be8, Cond.selects RJx4a65c yJx4a65c_add_72be8 yJx4a65c_add_72be8, Cond.code yJx4a65c_add_72be8 cJx4a65c_add_72be8 4 none, Cond.methodLink RJx4a65c 129 yJx4a65c_grow_d5877, Cond.instanceMethod yJx4a65c_grow_d5877, Cond.selects RJx4a65c yJx4a65c_grow_d5877 yJx4a65c_grow_d5877, Cond.code yJx4a65c_grow_d5877 cJx4a65c_grow_d5877 1 (some (.array (.object "java/lang/Object"))), Cond.methodLink RJx4a65c 69 yJx4a65c_grow_92f84, Cond.instanceMethod yJx4a65c_grow_92f84, Cond.selects RJx4a65c yJx4a65c_grow_92f84 yJx4a65c_grow_92f84, Cond.code yJx4a65c_grow_92f84 cJx4a65c_grow_92f84 4 (some (.array (.object "java/lang/Object"))), Cond.fieldLink RJx4a65c 39 "java/util/ArrayList" "DEFAULTCAPACITY_EMPTY_ELEMENTDATA" "[Ljava/lang/Object;", Cond.methodLink RJx4a65c 79 Lib.Math.max.name, Cond.static Lib.Math.max.name]
def wsX5_gang_r3 : List Cond := [Cond.initialized "java/lang/Math", Cond.code Lib.Math.max.name Lib.Math.max.code 2 (some .int), Cond.classLink RJx4a65c 7 "java/lang/Object", Cond.methodLink RJx4a65c 73 yJ8_newLength_cabcc, Cond.static yJ8_newLength_cabcc, Cond.initialized RJ8, Cond.code yJ8_newLength_cabcc cJ8_newLength_cabcc 4 (some .int), Cond.methodLink RJ8 194 Lib.Math.max.name, Cond.constant RJ8 200 (2147483639), Cond.methodLink RJ8 201 yJ8_hugeLength_7cf53, Cond.static yJ8_hugeLength_7cf53, Cond.code yJ8_hugeLength_7cf53 cJ8_hugeLength_7cf53 3 (some .int), Cond.methodLink RJx4a65c 66 yJ7_copyOf_1904c, Cond.static yJ7_copyOf_1904c, Cond.initialized RJ7, Cond.code yJ7_copyOf_1904c cJ7_copyOf_1904c 2 (some (.array (.object "java/lang/Object"))), Cond.methodLink RJ7 86 ⟨"java/lang/Object", "getClass", "()Ljava/lang/Class;"⟩, Cond.selects "[Ljava/lang/Object;" ⟨"java/lang/Object", "getClass", "()Ljava/lang/Class;"⟩ ⟨"java/lang/Object", "getClass", "()Ljava/lang/Class;"⟩, Cond.instanceMethod ⟨"java/lang/Object", "getClass", "()Ljava/lang/Class;"⟩, Cond.native ⟨"java/lang/Object", "getClass", "()Ljava/lang/Class;"⟩, Cond.methodLink RJ7 300 yJ7_copyOf_6403c, Cond.static yJ7_copyOf_6403c, Cond.code yJ7_copyOf_6403c cJ7_copyOf_6403c 4 (some (.array (.object "java/lang/Object"))), Cond.classLink RJ7 110 "[Ljava/lang/Object;"]
def wsX5_gang_r4 : List Cond := [Cond.classLink RJ7 2 "java/lang/Object", Cond.methodLink RJ7 304 Lib.Math.min.name, Cond.static Lib.Math.min.name, Cond.code Lib.Math.min.name Lib.Math.min.code 2 (some .int), Cond.methodLink RJ7 150 arraycopyName, Cond.native arraycopyName, Cond.static arraycopyName, Cond.initialized "java/lang/System"]
def wsX5_gang : List Cond := .code yX5_gang cX5_gang 3 (some .int) :: ((wsX5_gang_r1 ++ (wsX5_gang_r2 ++ (wsX5_gang_r3 ++ wsX5_gang_r4))) ++ wsX50 ++ wsX00 ++ wsJx4a65c0 ++ (vx_atS RX5 40 "java/lang/IllegalStateException" ["java/lang/RuntimeException", "java/lang/Exception"]).filter goodWord ++ (vx_atS RX5 174 "java/lang/IllegalArgumentException" ["java/lang/RuntimeException", "java/lang/Exception"]).filter goodWord)
def wsX5_countFaring_r1 : List Cond := [Cond.fieldLink RX5 25 "CoalHulks" "present" "Ljava/util/ArrayList;", Cond.classLink RX5 82 "CoalHulks$Steamer", Cond.fieldLink RX5 164 "CoalHulks$Steamer" "fate" "I", Cond.methodLink RX5 32 yJx4a65c_size_8abf5, Cond.instanceMethod yJx4a65c_size_8abf5, Cond.selects RJx4a65c yJx4a65c_size_8abf5 yJx4a65c_size_8abf5, Cond.initialized RJx4a65c, Cond.code yJx4a65c_size_8abf5 cJx4a65c_size_8abf5 1 (some .int), Cond.fieldLink RJx4a65c 48 "java/util/ArrayList" "size" "I", Cond.methodLink RX5 62 yJx4a65c_get_915e3, Cond.instanceMethod yJx4a65c_get_915e3, Cond.selects RJx4a65c yJx4a65c_get_915e3 yJx4a65c_get_915e3, Cond.code yJx4a65c_get_915e3 cJx4a65c_get_915e3 2 (some (.object "java/lang/Object")), Cond.methodLink RJx4a65c 118 yJ15_checkIndex_7cf53, Cond.static yJ15_checkIndex_7cf53, Cond.initialized RJ15, Cond.code yJ15_checkIndex_7cf53 cJ15_checkIndex_7cf53 2 (some .int), Cond.methodLink RJ15 105 yJ3_checkIndex_8e157, Cond.static yJ3_checkIndex_8e157, Cond.initialized RJ3, Cond.code yJ3_checkIndex_8e157 cJ3_checkIndex_8e157 3 (some .int), Cond.methodLink RJx4a65c 123 yJx4a65c_elementData_915e3, Cond.instanceMethod yJx4a65c_elementData_915e3, Cond.selects RJx4a65c yJx4a65c_elementData_915e3 yJx4a65c_elementData_915e3]
def wsX5_countFaring_r2 : List Cond := [Cond.code yJx4a65c_elementData_915e3 cJx4a65c_elementData_915e3 2 (some (.object "java/lang/Object")), Cond.fieldLink RJx4a65c 9 "java/util/ArrayList" "elementData" "[Ljava/lang/Object;"]
def wsX5_countFaring : List Cond := .code yX5_countFaring cX5_countFaring 4 (some .int) :: ((wsX5_countFaring_r1 ++ wsX5_countFaring_r2) ++ wsX50 ++ wsX40 ++ wsJx4a65c0)
def wsX5_steamer_r1 : List Cond := [Cond.classLink RX5 36 "java/lang/IllegalStateException", Cond.initialized "java/lang/IllegalStateException", Cond.fieldLink RX5 22 "CoalHulks" "steamers" "Ljava/util/ArrayList;", Cond.classLink RX5 82 RX4, Cond.instantiable RX4 4, Cond.initialized RX4, Cond.fieldLink RX5 25 "CoalHulks" "present" "Ljava/util/ArrayList;", Cond.methodLink RX5 28 yX5_refuseOutOfRange, Cond.static yX5_refuseOutOfRange, Cond.initialized RX5, Cond.code yX5_refuseOutOfRange cX5_refuseOutOfRange 3 none, Cond.classLink RX5 170 "java/lang/IllegalArgumentException", Cond.initialized "java/lang/IllegalArgumentException", Cond.methodLink RX5 32 yJx4a65c_size_8abf5, Cond.instanceMethod yJx4a65c_size_8abf5, Cond.selects RJx4a65c yJx4a65c_size_8abf5 yJx4a65c_size_8abf5, Cond.initialized RJx4a65c, Cond.code yJx4a65c_size_8abf5 cJx4a65c_size_8abf5 1 (some .int), Cond.fieldLink RJx4a65c 48 "java/util/ArrayList" "size" "I", Cond.methodLink RX5 76 yX5_countFaring, Cond.instanceMethod yX5_countFaring, Cond.selects RX5 yX5_countFaring yX5_countFaring, Cond.code yX5_countFaring cX5_countFaring 4 (some .int), Cond.classLink RX5 82 "CoalHulks$Steamer"]
def wsX5_steamer_r2 : List Cond := [Cond.fieldLink RX5 164 "CoalHulks$Steamer" "fate" "I", Cond.methodLink RX5 62 yJx4a65c_get_915e3, Cond.instanceMethod yJx4a65c_get_915e3, Cond.selects RJx4a65c yJx4a65c_get_915e3 yJx4a65c_get_915e3, Cond.code yJx4a65c_get_915e3 cJx4a65c_get_915e3 2 (some (.object "java/lang/Object")), Cond.methodLink RJx4a65c 118 yJ15_checkIndex_7cf53, Cond.static yJ15_checkIndex_7cf53, Cond.initialized RJ15, Cond.code yJ15_checkIndex_7cf53 cJ15_checkIndex_7cf53 2 (some .int), Cond.methodLink RJ15 105 yJ3_checkIndex_8e157, Cond.static yJ3_checkIndex_8e157, Cond.initialized RJ3, Cond.code yJ3_checkIndex_8e157 cJ3_checkIndex_8e157 3 (some .int), Cond.methodLink RJx4a65c 123 yJx4a65c_elementData_915e3, Cond.instanceMethod yJx4a65c_elementData_915e3, Cond.selects RJx4a65c yJx4a65c_elementData_915e3 yJx4a65c_elementData_915e3, Cond.code yJx4a65c_elementData_915e3 cJx4a65c_elementData_915e3 2 (some (.object "java/lang/Object")), Cond.fieldLink RJx4a65c 9 "java/util/ArrayList" "elementData" "[Ljava/lang/Object;", Cond.methodLink RX5 84 yX4_init, Cond.instanceMethod yX4_init, Cond.code yX4_init cX4_init 4 none, Cond.methodLink RX4 3 objectInit, Cond.instanceMethod objectInit, Cond.code objectInit ⟨#[0xb1]⟩ 1 none]
def wsX5_steamer_r3 : List Cond := [Cond.fieldLink RX4 9 "CoalHulks$Steamer" "number" "I", Cond.fieldLink RX4 15 "CoalHulks$Steamer" "want" "I", Cond.fieldLink RX4 18 "CoalHulks$Steamer" "patience" "I", Cond.fieldLink RX4 21 "CoalHulks$Steamer" "fate" "I", Cond.methodLink RX5 48 yJx4a65c_add_9ea2d, Cond.instanceMethod yJx4a65c_add_9ea2d, Cond.selects RJx4a65c yJx4a65c_add_9ea2d yJx4a65c_add_9ea2d, Cond.code yJx4a65c_add_9ea2d cJx4a65c_add_9ea2d 2 (some .boolean), Cond.fieldLink RJx4a65c 63 "java/util/ArrayList" "modCount" "I", Cond.sameField "java/util/ArrayList" "java/util/AbstractList" "modCount" "I", Cond.methodLink RJx4a65c 131 yJx4a65c_add_72be8, Cond.instanceMethod yJx4a65c_add_72be8, Cond.selects RJx4a65c yJx4a65c_add_72be8 yJx4a65c_add_72be8, Cond.code yJx4a65c_add_72be8 cJx4a65c_add_72be8 4 none, Cond.methodLink RJx4a65c 129 yJx4a65c_grow_d5877, Cond.instanceMethod yJx4a65c_grow_d5877, Cond.selects RJx4a65c yJx4a65c_grow_d5877 yJx4a65c_grow_d5877, Cond.code yJx4a65c_grow_d5877 cJx4a65c_grow_d5877 1 (some (.array (.object "java/lang/Object"))), Cond.methodLink RJx4a65c 69 yJx4a65c_grow_92f84, Cond.instanceMethod yJx4a65c_grow_92f84, Cond.selects RJx4a65c yJx4a65c_grow_92f84 yJx4a65c_grow_92f84, Cond.code yJx4a65c_grow_92f84 cJx4a65c_grow_92f84 4 (some (.array (.object "java/lang/Object"))), Cond.fieldLink RJx4a65c 39 "java/util/ArrayList" "DEFAULTCAPACITY_EMPTY_ELEMENTDATA" "[Ljava/lang/Object;", Cond.methodLink RJx4a65c 79 Lib.Math.max.name]
def wsX5_steamer_r4 : List Cond := [Cond.static Lib.Math.max.name, Cond.initialized "java/lang/Math", Cond.code Lib.Math.max.name Lib.Math.max.code 2 (some .int), Cond.classLink RJx4a65c 7 "java/lang/Object", Cond.methodLink RJx4a65c 73 yJ8_newLength_cabcc, Cond.static yJ8_newLength_cabcc, Cond.initialized RJ8, Cond.code yJ8_newLength_cabcc cJ8_newLength_cabcc 4 (some .int), Cond.methodLink RJ8 194 Lib.Math.max.name, Cond.constant RJ8 200 (2147483639), Cond.methodLink RJ8 201 yJ8_hugeLength_7cf53, Cond.static yJ8_hugeLength_7cf53, Cond.code yJ8_hugeLength_7cf53 cJ8_hugeLength_7cf53 3 (some .int), Cond.methodLink RJx4a65c 66 yJ7_copyOf_1904c, Cond.static yJ7_copyOf_1904c, Cond.initialized RJ7, Cond.code yJ7_copyOf_1904c cJ7_copyOf_1904c 2 (some (.array (.object "java/lang/Object"))), Cond.methodLink RJ7 86 ⟨"java/lang/Object", "getClass", "()Ljava/lang/Class;"⟩, Cond.selects "[Ljava/lang/Object;" ⟨"java/lang/Object", "getClass", "()Ljava/lang/Class;"⟩ ⟨"java/lang/Object", "getClass", "()Ljava/lang/Class;"⟩, Cond.instanceMethod ⟨"java/lang/Object", "getClass", "()Ljava/lang/Class;"⟩, Cond.native ⟨"java/lang/Object", "getClass", "()Ljava/lang/Class;"⟩, Cond.methodLink RJ7 300 yJ7_copyOf_6403c, Cond.static yJ7_copyOf_6403c, Cond.code yJ7_copyOf_6403c cJ7_copyOf_6403c 4 (some (.array (.object "java/lang/Object")))]
def wsX5_steamer_r5 : List Cond := [Cond.classLink RJ7 110 "[Ljava/lang/Object;", Cond.classLink RJ7 2 "java/lang/Object", Cond.methodLink RJ7 304 Lib.Math.min.name, Cond.static Lib.Math.min.name, Cond.code Lib.Math.min.name Lib.Math.min.code 2 (some .int), Cond.methodLink RJ7 150 arraycopyName, Cond.native arraycopyName, Cond.static arraycopyName, Cond.initialized "java/lang/System"]
def wsX5_steamer : List Cond := .code yX5_steamer cX5_steamer 5 (some .int) :: ((wsX5_steamer_r1 ++ (wsX5_steamer_r2 ++ (wsX5_steamer_r3 ++ (wsX5_steamer_r4 ++ wsX5_steamer_r5)))) ++ wsX50 ++ wsX40 ++ wsJx4a65c0 ++ (vx_atS RX5 40 "java/lang/IllegalStateException" ["java/lang/RuntimeException", "java/lang/Exception"]).filter goodWord ++ (vx_atS RX5 174 "java/lang/IllegalArgumentException" ["java/lang/RuntimeException", "java/lang/Exception"]).filter goodWord)
def wsX5_findLighter_r1 : List Cond := [Cond.classLink RX5 188 "java/lang/IndexOutOfBoundsException", Cond.initialized "java/lang/IndexOutOfBoundsException", Cond.fieldLink RX5 16 "CoalHulks" "lighters" "Ljava/util/ArrayList;", Cond.classLink RX5 60 "CoalHulks$Lighter", Cond.methodLink RX5 32 yJx4a65c_size_8abf5, Cond.instanceMethod yJx4a65c_size_8abf5, Cond.selects RJx4a65c yJx4a65c_size_8abf5 yJx4a65c_size_8abf5, Cond.initialized RJx4a65c, Cond.code yJx4a65c_size_8abf5 cJx4a65c_size_8abf5 1 (some .int), Cond.fieldLink RJx4a65c 48 "java/util/ArrayList" "size" "I", Cond.methodLink RX5 62 yJx4a65c_get_915e3, Cond.instanceMethod yJx4a65c_get_915e3, Cond.selects RJx4a65c yJx4a65c_get_915e3 yJx4a65c_get_915e3, Cond.code yJx4a65c_get_915e3 cJx4a65c_get_915e3 2 (some (.object "java/lang/Object")), Cond.methodLink RJx4a65c 118 yJ15_checkIndex_7cf53, Cond.static yJ15_checkIndex_7cf53, Cond.initialized RJ15, Cond.code yJ15_checkIndex_7cf53 cJ15_checkIndex_7cf53 2 (some .int), Cond.methodLink RJ15 105 yJ3_checkIndex_8e157, Cond.static yJ3_checkIndex_8e157, Cond.initialized RJ3, Cond.code yJ3_checkIndex_8e157 cJ3_checkIndex_8e157 3 (some .int), Cond.methodLink RJx4a65c 123 yJx4a65c_elementData_915e3, Cond.instanceMethod yJx4a65c_elementData_915e3]
def wsX5_findLighter_r2 : List Cond := [Cond.selects RJx4a65c yJx4a65c_elementData_915e3 yJx4a65c_elementData_915e3, Cond.code yJx4a65c_elementData_915e3 cJx4a65c_elementData_915e3 2 (some (.object "java/lang/Object")), Cond.fieldLink RJx4a65c 9 "java/util/ArrayList" "elementData" "[Ljava/lang/Object;"]
def wsX5_findLighter : List Cond := .code yX5_findLighter cX5_findLighter 2 (some (.object "CoalHulks$Lighter")) :: ((wsX5_findLighter_r1 ++ wsX5_findLighter_r2) ++ wsX50 ++ wsJx4a65c0 ++ (vx_atS RX5 192 "java/lang/IndexOutOfBoundsException" ["java/lang/RuntimeException", "java/lang/Exception"]).filter goodWord)
def wsX5_findGang_r1 : List Cond := [Cond.classLink RX5 188 "java/lang/IndexOutOfBoundsException", Cond.initialized "java/lang/IndexOutOfBoundsException", Cond.fieldLink RX5 19 "CoalHulks" "gangs" "Ljava/util/ArrayList;", Cond.classLink RX5 71 "CoalHulks$Gang", Cond.methodLink RX5 32 yJx4a65c_size_8abf5, Cond.instanceMethod yJx4a65c_size_8abf5, Cond.selects RJx4a65c yJx4a65c_size_8abf5 yJx4a65c_size_8abf5, Cond.initialized RJx4a65c, Cond.code yJx4a65c_size_8abf5 cJx4a65c_size_8abf5 1 (some .int), Cond.fieldLink RJx4a65c 48 "java/util/ArrayList" "size" "I", Cond.methodLink RX5 62 yJx4a65c_get_915e3, Cond.instanceMethod yJx4a65c_get_915e3, Cond.selects RJx4a65c yJx4a65c_get_915e3 yJx4a65c_get_915e3, Cond.code yJx4a65c_get_915e3 cJx4a65c_get_915e3 2 (some (.object "java/lang/Object")), Cond.methodLink RJx4a65c 118 yJ15_checkIndex_7cf53, Cond.static yJ15_checkIndex_7cf53, Cond.initialized RJ15, Cond.code yJ15_checkIndex_7cf53 cJ15_checkIndex_7cf53 2 (some .int), Cond.methodLink RJ15 105 yJ3_checkIndex_8e157, Cond.static yJ3_checkIndex_8e157, Cond.initialized RJ3, Cond.code yJ3_checkIndex_8e157 cJ3_checkIndex_8e157 3 (some .int), Cond.methodLink RJx4a65c 123 yJx4a65c_elementData_915e3, Cond.instanceMethod yJx4a65c_elementData_915e3]
def wsX5_findGang_r2 : List Cond := [Cond.selects RJx4a65c yJx4a65c_elementData_915e3 yJx4a65c_elementData_915e3, Cond.code yJx4a65c_elementData_915e3 cJx4a65c_elementData_915e3 2 (some (.object "java/lang/Object")), Cond.fieldLink RJx4a65c 9 "java/util/ArrayList" "elementData" "[Ljava/lang/Object;"]
def wsX5_findGang : List Cond := .code yX5_findGang cX5_findGang 2 (some (.object "CoalHulks$Gang")) :: ((wsX5_findGang_r1 ++ wsX5_findGang_r2) ++ wsX50 ++ wsJx4a65c0 ++ (vx_atS RX5 192 "java/lang/IndexOutOfBoundsException" ["java/lang/RuntimeException", "java/lang/Exception"]).filter goodWord)
def wsX5_findSteamer_r1 : List Cond := [Cond.classLink RX5 188 "java/lang/IndexOutOfBoundsException", Cond.initialized "java/lang/IndexOutOfBoundsException", Cond.fieldLink RX5 22 "CoalHulks" "steamers" "Ljava/util/ArrayList;", Cond.classLink RX5 82 "CoalHulks$Steamer", Cond.methodLink RX5 32 yJx4a65c_size_8abf5, Cond.instanceMethod yJx4a65c_size_8abf5, Cond.selects RJx4a65c yJx4a65c_size_8abf5 yJx4a65c_size_8abf5, Cond.initialized RJx4a65c, Cond.code yJx4a65c_size_8abf5 cJx4a65c_size_8abf5 1 (some .int), Cond.fieldLink RJx4a65c 48 "java/util/ArrayList" "size" "I", Cond.methodLink RX5 62 yJx4a65c_get_915e3, Cond.instanceMethod yJx4a65c_get_915e3, Cond.selects RJx4a65c yJx4a65c_get_915e3 yJx4a65c_get_915e3, Cond.code yJx4a65c_get_915e3 cJx4a65c_get_915e3 2 (some (.object "java/lang/Object")), Cond.methodLink RJx4a65c 118 yJ15_checkIndex_7cf53, Cond.static yJ15_checkIndex_7cf53, Cond.initialized RJ15, Cond.code yJ15_checkIndex_7cf53 cJ15_checkIndex_7cf53 2 (some .int), Cond.methodLink RJ15 105 yJ3_checkIndex_8e157, Cond.static yJ3_checkIndex_8e157, Cond.initialized RJ3, Cond.code yJ3_checkIndex_8e157 cJ3_checkIndex_8e157 3 (some .int), Cond.methodLink RJx4a65c 123 yJx4a65c_elementData_915e3, Cond.instanceMethod yJx4a65c_elementData_915e3]
def wsX5_findSteamer_r2 : List Cond := [Cond.selects RJx4a65c yJx4a65c_elementData_915e3 yJx4a65c_elementData_915e3, Cond.code yJx4a65c_elementData_915e3 cJx4a65c_elementData_915e3 2 (some (.object "java/lang/Object")), Cond.fieldLink RJx4a65c 9 "java/util/ArrayList" "elementData" "[Ljava/lang/Object;"]
def wsX5_findSteamer : List Cond := .code yX5_findSteamer cX5_findSteamer 2 (some (.object "CoalHulks$Steamer")) :: ((wsX5_findSteamer_r1 ++ wsX5_findSteamer_r2) ++ wsX50 ++ wsJx4a65c0 ++ (vx_atS RX5 192 "java/lang/IndexOutOfBoundsException" ["java/lang/RuntimeException", "java/lang/Exception"]).filter goodWord)
def wsX5_refuseOrdered : List Cond := .code yX5_refuseOrdered cX5_refuseOrdered 1 none :: ([.classLink RX5 36 "java/lang/IllegalStateException", .initialized "java/lang/IllegalStateException", .fieldLink RX5 116 "CoalHulks$Lighter" "task" "LCoalHulks$Order;"] ++ wsX20 ++ (vx_atS RX5 40 "java/lang/IllegalStateException" ["java/lang/RuntimeException", "java/lang/Exception"]).filter goodWord)
def wsX5_refuseBusy : List Cond := .code yX5_refuseBusy cX5_refuseBusy 1 none :: ([.classLink RX5 36 "java/lang/IllegalStateException", .initialized "java/lang/IllegalStateException", .methodLink RX5 183 yX0_isFree, .instanceMethod yX0_isFree, .selects RX0 yX0_isFree yX0_isFree, .initialized RX0, .code yX0_isFree cX0_isFree 1 (some .boolean), .fieldLink RX0 18 "CoalHulks$Gang" "aboard" "Z", .fieldLink RX0 22 "CoalHulks$Gang" "rest" "I"] ++ wsX00 ++ (vx_atS RX5 40 "java/lang/IllegalStateException" ["java/lang/RuntimeException", "java/lang/Exception"]).filter goodWord)
def wsX5_order_r1 : List Cond := [Cond.classLink RX5 36 "java/lang/IllegalStateException", Cond.initialized "java/lang/IllegalStateException", Cond.classLink RX5 111 RX3, Cond.instantiable RX3 2, Cond.initialized RX3, Cond.fieldLink RX5 116 "CoalHulks$Lighter" "task" "LCoalHulks$Order;", Cond.fieldLink RX5 120 "CoalHulks$Gang" "aboard" "Z", Cond.methodLink RX5 86 yX5_findLighter, Cond.instanceMethod yX5_findLighter, Cond.selects RX5 yX5_findLighter yX5_findLighter, Cond.initialized RX5, Cond.code yX5_findLighter cX5_findLighter 2 (some (.object "CoalHulks$Lighter")), Cond.classLink RX5 188 "java/lang/IndexOutOfBoundsException", Cond.initialized "java/lang/IndexOutOfBoundsException", Cond.fieldLink RX5 16 "CoalHulks" "lighters" "Ljava/util/ArrayList;", Cond.classLink RX5 60 "CoalHulks$Lighter", Cond.methodLink RX5 32 yJx4a65c_size_8abf5, Cond.instanceMethod yJx4a65c_size_8abf5, Cond.selects RJx4a65c yJx4a65c_size_8abf5 yJx4a65c_size_8abf5, Cond.initialized RJx4a65c, Cond.code yJx4a65c_size_8abf5 cJx4a65c_size_8abf5 1 (some .int), Cond.fieldLink RJx4a65c 48 "java/util/ArrayList" "size" "I", Cond.methodLink RX5 62 yJx4a65c_get_915e3, Cond.instanceMethod yJx4a65c_get_915e3]
def wsX5_order_r2 : List Cond := [Cond.selects RJx4a65c yJx4a65c_get_915e3 yJx4a65c_get_915e3, Cond.code yJx4a65c_get_915e3 cJx4a65c_get_915e3 2 (some (.object "java/lang/Object")), Cond.methodLink RJx4a65c 118 yJ15_checkIndex_7cf53, Cond.static yJ15_checkIndex_7cf53, Cond.initialized RJ15, Cond.code yJ15_checkIndex_7cf53 cJ15_checkIndex_7cf53 2 (some .int), Cond.methodLink RJ15 105 yJ3_checkIndex_8e157, Cond.static yJ3_checkIndex_8e157, Cond.initialized RJ3, Cond.code yJ3_checkIndex_8e157 cJ3_checkIndex_8e157 3 (some .int), Cond.methodLink RJx4a65c 123 yJx4a65c_elementData_915e3, Cond.instanceMethod yJx4a65c_elementData_915e3, Cond.selects RJx4a65c yJx4a65c_elementData_915e3 yJx4a65c_elementData_915e3, Cond.code yJx4a65c_elementData_915e3 cJx4a65c_elementData_915e3 2 (some (.object "java/lang/Object")), Cond.fieldLink RJx4a65c 9 "java/util/ArrayList" "elementData" "[Ljava/lang/Object;", Cond.methodLink RX5 90 yX5_findGang, Cond.instanceMethod yX5_findGang, Cond.selects RX5 yX5_findGang yX5_findGang, Cond.code yX5_findGang cX5_findGang 2 (some (.object "CoalHulks$Gang")), Cond.fieldLink RX5 19 "CoalHulks" "gangs" "Ljava/util/ArrayList;", Cond.classLink RX5 71 "CoalHulks$Gang", Cond.methodLink RX5 94 yX5_findSteamer, Cond.instanceMethod yX5_findSteamer, Cond.selects RX5 yX5_findSteamer yX5_findSteamer]
def wsX5_order_r3 : List Cond := [Cond.code yX5_findSteamer cX5_findSteamer 2 (some (.object "CoalHulks$Steamer")), Cond.fieldLink RX5 22 "CoalHulks" "steamers" "Ljava/util/ArrayList;", Cond.classLink RX5 82 "CoalHulks$Steamer", Cond.methodLink RX5 98 yX5_refuseOrdered, Cond.static yX5_refuseOrdered, Cond.code yX5_refuseOrdered cX5_refuseOrdered 1 none, Cond.methodLink RX5 102 yX5_refuseBusy, Cond.static yX5_refuseBusy, Cond.code yX5_refuseBusy cX5_refuseBusy 1 none, Cond.methodLink RX5 183 yX0_isFree, Cond.instanceMethod yX0_isFree, Cond.selects RX0 yX0_isFree yX0_isFree, Cond.initialized RX0, Cond.code yX0_isFree cX0_isFree 1 (some .boolean), Cond.fieldLink RX0 18 "CoalHulks$Gang" "aboard" "Z", Cond.fieldLink RX0 22 "CoalHulks$Gang" "rest" "I", Cond.methodLink RX5 106 yX4_hasLeft, Cond.instanceMethod yX4_hasLeft, Cond.selects RX4 yX4_hasLeft yX4_hasLeft, Cond.initialized RX4, Cond.code yX4_hasLeft cX4_hasLeft 1 (some .boolean), Cond.fieldLink RX4 21 "CoalHulks$Steamer" "fate" "I", Cond.methodLink RX5 113 yX3_init, Cond.instanceMethod yX3_init]
def wsX5_order_r4 : List Cond := [Cond.code yX3_init cX3_init 3 none, Cond.methodLink RX3 1 objectInit, Cond.instanceMethod objectInit, Cond.code objectInit ⟨#[0xb1]⟩ 1 none, Cond.fieldLink RX3 7 "CoalHulks$Order" "shovellers" "LCoalHulks$Gang;", Cond.fieldLink RX3 13 "CoalHulks$Order" "target" "LCoalHulks$Steamer;"]
def wsX5_order : List Cond := .code yX5_order cX5_order 7 none :: ((wsX5_order_r1 ++ (wsX5_order_r2 ++ (wsX5_order_r3 ++ wsX5_order_r4))) ++ wsX30 ++ wsX20 ++ wsX00 ++ wsX50 ++ wsJx4a65c0 ++ wsX40 ++ (vx_atS RX5 40 "java/lang/IllegalStateException" ["java/lang/RuntimeException", "java/lang/Exception"]).filter goodWord ++ (vx_atS RX5 192 "java/lang/IndexOutOfBoundsException" ["java/lang/RuntimeException", "java/lang/Exception"]).filter goodWord)
def wsX5_findHulk_r1 : List Cond := [Cond.classLink RX5 188 "java/lang/IndexOutOfBoundsException", Cond.initialized "java/lang/IndexOutOfBoundsException", Cond.fieldLink RX5 10 "CoalHulks" "hulks" "Ljava/util/ArrayList;", Cond.classLink RX5 43 "CoalHulks$Hulk", Cond.methodLink RX5 32 yJx4a65c_size_8abf5, Cond.instanceMethod yJx4a65c_size_8abf5, Cond.selects RJx4a65c yJx4a65c_size_8abf5 yJx4a65c_size_8abf5, Cond.initialized RJx4a65c, Cond.code yJx4a65c_size_8abf5 cJx4a65c_size_8abf5 1 (some .int), Cond.fieldLink RJx4a65c 48 "java/util/ArrayList" "size" "I", Cond.methodLink RX5 62 yJx4a65c_get_915e3, Cond.instanceMethod yJx4a65c_get_915e3, Cond.selects RJx4a65c yJx4a65c_get_915e3 yJx4a65c_get_915e3, Cond.code yJx4a65c_get_915e3 cJx4a65c_get_915e3 2 (some (.object "java/lang/Object")), Cond.methodLink RJx4a65c 118 yJ15_checkIndex_7cf53, Cond.static yJ15_checkIndex_7cf53, Cond.initialized RJ15, Cond.code yJ15_checkIndex_7cf53 cJ15_checkIndex_7cf53 2 (some .int), Cond.methodLink RJ15 105 yJ3_checkIndex_8e157, Cond.static yJ3_checkIndex_8e157, Cond.initialized RJ3, Cond.code yJ3_checkIndex_8e157 cJ3_checkIndex_8e157 3 (some .int), Cond.methodLink RJx4a65c 123 yJx4a65c_elementData_915e3, Cond.instanceMethod yJx4a65c_elementData_915e3]
def wsX5_findHulk_r2 : List Cond := [Cond.selects RJx4a65c yJx4a65c_elementData_915e3 yJx4a65c_elementData_915e3, Cond.code yJx4a65c_elementData_915e3 cJx4a65c_elementData_915e3 2 (some (.object "java/lang/Object")), Cond.fieldLink RJx4a65c 9 "java/util/ArrayList" "elementData" "[Ljava/lang/Object;"]
def wsX5_findHulk : List Cond := .code yX5_findHulk cX5_findHulk 2 (some (.object "CoalHulks$Hulk")) :: ((wsX5_findHulk_r1 ++ wsX5_findHulk_r2) ++ wsX50 ++ wsJx4a65c0 ++ (vx_atS RX5 192 "java/lang/IndexOutOfBoundsException" ["java/lang/RuntimeException", "java/lang/Exception"]).filter goodWord)
def wsX5_shift_r1 : List Cond := [Cond.fieldLink RX5 128 "CoalHulks$Lighter" "home" "LCoalHulks$Hulk;", Cond.methodLink RX5 86 yX5_findLighter, Cond.instanceMethod yX5_findLighter, Cond.selects RX5 yX5_findLighter yX5_findLighter, Cond.initialized RX5, Cond.code yX5_findLighter cX5_findLighter 2 (some (.object "CoalHulks$Lighter")), Cond.classLink RX5 188 "java/lang/IndexOutOfBoundsException", Cond.initialized "java/lang/IndexOutOfBoundsException", Cond.fieldLink RX5 16 "CoalHulks" "lighters" "Ljava/util/ArrayList;", Cond.classLink RX5 60 "CoalHulks$Lighter", Cond.methodLink RX5 32 yJx4a65c_size_8abf5, Cond.instanceMethod yJx4a65c_size_8abf5, Cond.selects RJx4a65c yJx4a65c_size_8abf5 yJx4a65c_size_8abf5, Cond.initialized RJx4a65c, Cond.code yJx4a65c_size_8abf5 cJx4a65c_size_8abf5 1 (some .int), Cond.fieldLink RJx4a65c 48 "java/util/ArrayList" "size" "I", Cond.methodLink RX5 62 yJx4a65c_get_915e3, Cond.instanceMethod yJx4a65c_get_915e3, Cond.selects RJx4a65c yJx4a65c_get_915e3 yJx4a65c_get_915e3, Cond.code yJx4a65c_get_915e3 cJx4a65c_get_915e3 2 (some (.object "java/lang/Object")), Cond.methodLink RJx4a65c 118 yJ15_checkIndex_7cf53, Cond.static yJ15_checkIndex_7cf53, Cond.initialized RJ15, Cond.code yJ15_checkIndex_7cf53 cJ15_checkIndex_7cf53 2 (some .int)]
def wsX5_shift_r2 : List Cond := [Cond.methodLink RJ15 105 yJ3_checkIndex_8e157, Cond.static yJ3_checkIndex_8e157, Cond.initialized RJ3, Cond.code yJ3_checkIndex_8e157 cJ3_checkIndex_8e157 3 (some .int), Cond.methodLink RJx4a65c 123 yJx4a65c_elementData_915e3, Cond.instanceMethod yJx4a65c_elementData_915e3, Cond.selects RJx4a65c yJx4a65c_elementData_915e3 yJx4a65c_elementData_915e3, Cond.code yJx4a65c_elementData_915e3 cJx4a65c_elementData_915e3 2 (some (.object "java/lang/Object")), Cond.fieldLink RJx4a65c 9 "java/util/ArrayList" "elementData" "[Ljava/lang/Object;", Cond.methodLink RX5 124 yX5_findHulk, Cond.instanceMethod yX5_findHulk, Cond.selects RX5 yX5_findHulk yX5_findHulk, Cond.code yX5_findHulk cX5_findHulk 2 (some (.object "CoalHulks$Hulk")), Cond.fieldLink RX5 10 "CoalHulks" "hulks" "Ljava/util/ArrayList;", Cond.classLink RX5 43 "CoalHulks$Hulk", Cond.methodLink RX5 98 yX5_refuseOrdered, Cond.static yX5_refuseOrdered, Cond.code yX5_refuseOrdered cX5_refuseOrdered 1 none, Cond.classLink RX5 36 "java/lang/IllegalStateException", Cond.initialized "java/lang/IllegalStateException", Cond.fieldLink RX5 116 "CoalHulks$Lighter" "task" "LCoalHulks$Order;"]
def wsX5_shift : List Cond := .code yX5_shift cX5_shift 5 none :: ((wsX5_shift_r1 ++ wsX5_shift_r2) ++ wsX20 ++ wsX50 ++ wsJx4a65c0 ++ (vx_atS RX5 192 "java/lang/IndexOutOfBoundsException" ["java/lang/RuntimeException", "java/lang/Exception"]).filter goodWord ++ (vx_atS RX5 40 "java/lang/IllegalStateException" ["java/lang/RuntimeException", "java/lang/Exception"]).filter goodWord)
def wsX5_sweep_r1 : List Cond := [Cond.fieldLink RX5 132 "CoalHulks$Lighter" "dust" "I", Cond.fieldLink RX5 128 "CoalHulks$Lighter" "home" "LCoalHulks$Hulk;", Cond.fieldLink RX5 136 "CoalHulks$Hulk" "coal" "I", Cond.methodLink RX5 86 yX5_findLighter, Cond.instanceMethod yX5_findLighter, Cond.selects RX5 yX5_findLighter yX5_findLighter, Cond.initialized RX5, Cond.code yX5_findLighter cX5_findLighter 2 (some (.object "CoalHulks$Lighter")), Cond.classLink RX5 188 "java/lang/IndexOutOfBoundsException", Cond.initialized "java/lang/IndexOutOfBoundsException", Cond.fieldLink RX5 16 "CoalHulks" "lighters" "Ljava/util/ArrayList;", Cond.classLink RX5 60 "CoalHulks$Lighter", Cond.methodLink RX5 32 yJx4a65c_size_8abf5, Cond.instanceMethod yJx4a65c_size_8abf5, Cond.selects RJx4a65c yJx4a65c_size_8abf5 yJx4a65c_size_8abf5, Cond.initialized RJx4a65c, Cond.code yJx4a65c_size_8abf5 cJx4a65c_size_8abf5 1 (some .int), Cond.fieldLink RJx4a65c 48 "java/util/ArrayList" "size" "I", Cond.methodLink RX5 62 yJx4a65c_get_915e3, Cond.instanceMethod yJx4a65c_get_915e3, Cond.selects RJx4a65c yJx4a65c_get_915e3 yJx4a65c_get_915e3, Cond.code yJx4a65c_get_915e3 cJx4a65c_get_915e3 2 (some (.object "java/lang/Object")), Cond.methodLink RJx4a65c 118 yJ15_checkIndex_7cf53, Cond.static yJ15_checkIndex_7cf53]
def wsX5_sweep_r2 : List Cond := [Cond.initialized RJ15, Cond.code yJ15_checkIndex_7cf53 cJ15_checkIndex_7cf53 2 (some .int), Cond.methodLink RJ15 105 yJ3_checkIndex_8e157, Cond.static yJ3_checkIndex_8e157, Cond.initialized RJ3, Cond.code yJ3_checkIndex_8e157 cJ3_checkIndex_8e157 3 (some .int), Cond.methodLink RJx4a65c 123 yJx4a65c_elementData_915e3, Cond.instanceMethod yJx4a65c_elementData_915e3, Cond.selects RJx4a65c yJx4a65c_elementData_915e3 yJx4a65c_elementData_915e3, Cond.code yJx4a65c_elementData_915e3 cJx4a65c_elementData_915e3 2 (some (.object "java/lang/Object")), Cond.fieldLink RJx4a65c 9 "java/util/ArrayList" "elementData" "[Ljava/lang/Object;", Cond.methodLink RX5 90 yX5_findGang, Cond.instanceMethod yX5_findGang, Cond.selects RX5 yX5_findGang yX5_findGang, Cond.code yX5_findGang cX5_findGang 2 (some (.object "CoalHulks$Gang")), Cond.fieldLink RX5 19 "CoalHulks" "gangs" "Ljava/util/ArrayList;", Cond.classLink RX5 71 "CoalHulks$Gang", Cond.methodLink RX5 98 yX5_refuseOrdered, Cond.static yX5_refuseOrdered, Cond.code yX5_refuseOrdered cX5_refuseOrdered 1 none, Cond.classLink RX5 36 "java/lang/IllegalStateException", Cond.initialized "java/lang/IllegalStateException", Cond.fieldLink RX5 116 "CoalHulks$Lighter" "task" "LCoalHulks$Order;", Cond.methodLink RX5 102 yX5_refuseBusy]
def wsX5_sweep_r3 : List Cond := [Cond.static yX5_refuseBusy, Cond.code yX5_refuseBusy cX5_refuseBusy 1 none, Cond.methodLink RX5 183 yX0_isFree, Cond.instanceMethod yX0_isFree, Cond.selects RX0 yX0_isFree yX0_isFree, Cond.initialized RX0, Cond.code yX0_isFree cX0_isFree 1 (some .boolean), Cond.fieldLink RX0 18 "CoalHulks$Gang" "aboard" "Z", Cond.fieldLink RX0 22 "CoalHulks$Gang" "rest" "I", Cond.methodLink RX5 139 yX0_lieDown, Cond.instanceMethod yX0_lieDown, Cond.selects RX0 yX0_lieDown yX0_lieDown, Cond.code yX0_lieDown cX0_lieDown 1 none, Cond.fieldLink RX0 25 "CoalHulks$Gang" "hoursCounted" "I"]
def wsX5_sweep : List Cond := .code yX5_sweep cX5_sweep 6 (some .int) :: ((wsX5_sweep_r1 ++ (wsX5_sweep_r2 ++ wsX5_sweep_r3)) ++ wsX20 ++ wsX10 ++ wsX50 ++ wsJx4a65c0 ++ wsX00 ++ (vx_atS RX5 192 "java/lang/IndexOutOfBoundsException" ["java/lang/RuntimeException", "java/lang/Exception"]).filter goodWord ++ (vx_atS RX5 40 "java/lang/IllegalStateException" ["java/lang/RuntimeException", "java/lang/Exception"]).filter goodWord)
def wsX5_restGangs_r1 : List Cond := [Cond.fieldLink RX5 19 "CoalHulks" "gangs" "Ljava/util/ArrayList;", Cond.classLink RX5 71 "CoalHulks$Gang", Cond.fieldLink RX5 161 "CoalHulks$Gang" "rest" "I", Cond.methodLink RX5 32 yJx4a65c_size_8abf5, Cond.instanceMethod yJx4a65c_size_8abf5, Cond.selects RJx4a65c yJx4a65c_size_8abf5 yJx4a65c_size_8abf5, Cond.initialized RJx4a65c, Cond.code yJx4a65c_size_8abf5 cJx4a65c_size_8abf5 1 (some .int), Cond.fieldLink RJx4a65c 48 "java/util/ArrayList" "size" "I", Cond.methodLink RX5 62 yJx4a65c_get_915e3, Cond.instanceMethod yJx4a65c_get_915e3, Cond.selects RJx4a65c yJx4a65c_get_915e3 yJx4a65c_get_915e3, Cond.code yJx4a65c_get_915e3 cJx4a65c_get_915e3 2 (some (.object "java/lang/Object")), Cond.methodLink RJx4a65c 118 yJ15_checkIndex_7cf53, Cond.static yJ15_checkIndex_7cf53, Cond.initialized RJ15, Cond.code yJ15_checkIndex_7cf53 cJ15_checkIndex_7cf53 2 (some .int), Cond.methodLink RJ15 105 yJ3_checkIndex_8e157, Cond.static yJ3_checkIndex_8e157, Cond.initialized RJ3, Cond.code yJ3_checkIndex_8e157 cJ3_checkIndex_8e157 3 (some .int), Cond.methodLink RJx4a65c 123 yJx4a65c_elementData_915e3, Cond.instanceMethod yJx4a65c_elementData_915e3, Cond.selects RJx4a65c yJx4a65c_elementData_915e3 yJx4a65c_elementData_915e3]
def wsX5_restGangs_r2 : List Cond := [Cond.code yJx4a65c_elementData_915e3 cJx4a65c_elementData_915e3 2 (some (.object "java/lang/Object")), Cond.fieldLink RJx4a65c 9 "java/util/ArrayList" "elementData" "[Ljava/lang/Object;"]
def wsX5_restGangs : List Cond := .code yX5_restGangs cX5_restGangs 3 none :: ((wsX5_restGangs_r1 ++ wsX5_restGangs_r2) ++ wsX50 ++ wsX00 ++ wsJx4a65c0)
def wsX5_takeBuoys_r1 : List Cond := [Cond.fieldLink RX5 25 "CoalHulks" "present" "Ljava/util/ArrayList;", Cond.classLink RX5 82 "CoalHulks$Steamer", Cond.fieldLink RX5 164 "CoalHulks$Steamer" "fate" "I", Cond.methodLink RX5 76 yX5_countFaring, Cond.instanceMethod yX5_countFaring, Cond.selects RX5 yX5_countFaring yX5_countFaring, Cond.initialized RX5, Cond.code yX5_countFaring cX5_countFaring 4 (some .int), Cond.methodLink RX5 32 yJx4a65c_size_8abf5, Cond.instanceMethod yJx4a65c_size_8abf5, Cond.selects RJx4a65c yJx4a65c_size_8abf5 yJx4a65c_size_8abf5, Cond.initialized RJx4a65c, Cond.code yJx4a65c_size_8abf5 cJx4a65c_size_8abf5 1 (some .int), Cond.fieldLink RJx4a65c 48 "java/util/ArrayList" "size" "I", Cond.methodLink RX5 62 yJx4a65c_get_915e3, Cond.instanceMethod yJx4a65c_get_915e3, Cond.selects RJx4a65c yJx4a65c_get_915e3 yJx4a65c_get_915e3, Cond.code yJx4a65c_get_915e3 cJx4a65c_get_915e3 2 (some (.object "java/lang/Object")), Cond.methodLink RJx4a65c 118 yJ15_checkIndex_7cf53, Cond.static yJ15_checkIndex_7cf53, Cond.initialized RJ15, Cond.code yJ15_checkIndex_7cf53 cJ15_checkIndex_7cf53 2 (some .int), Cond.methodLink RJ15 105 yJ3_checkIndex_8e157, Cond.static yJ3_checkIndex_8e157]
def wsX5_takeBuoys_r2 : List Cond := [Cond.initialized RJ3, Cond.code yJ3_checkIndex_8e157 cJ3_checkIndex_8e157 3 (some .int), Cond.methodLink RJx4a65c 123 yJx4a65c_elementData_915e3, Cond.instanceMethod yJx4a65c_elementData_915e3, Cond.selects RJx4a65c yJx4a65c_elementData_915e3 yJx4a65c_elementData_915e3, Cond.code yJx4a65c_elementData_915e3 cJx4a65c_elementData_915e3 2 (some (.object "java/lang/Object")), Cond.fieldLink RJx4a65c 9 "java/util/ArrayList" "elementData" "[Ljava/lang/Object;"]
def wsX5_takeBuoys : List Cond := .code yX5_takeBuoys cX5_takeBuoys 4 none :: ((wsX5_takeBuoys_r1 ++ wsX5_takeBuoys_r2) ++ wsX50 ++ wsX40 ++ wsJx4a65c0)
def wsX5_shovelFromHulk : List Cond := .code yX5_shovelFromHulk cX5_shovelFromHulk 5 none :: ([.fieldLink RX5 128 "CoalHulks$Lighter" "home" "LCoalHulks$Hulk;", .fieldLink RX5 136 "CoalHulks$Hulk" "coal" "I", .fieldLink RX5 230 "CoalHulks$Lighter" "hold" "I", .fieldLink RX5 151 "CoalHulks$Lighter" "load" "I", .methodLink RX5 243 Lib.Math.min.name, .static Lib.Math.min.name, .initialized "java/lang/Math", .code Lib.Math.min.name Lib.Math.min.code 2 (some .int), .fieldLink RX5 132 "CoalHulks$Lighter" "dust" "I", .methodLink RX5 249 yX0_strength, .instanceMethod yX0_strength, .selects RX0 yX0_strength yX0_strength, .initialized RX0, .code yX0_strength cX0_strength 3 (some .int), .fieldLink RX0 15 "CoalHulks$Gang" "men" "I"] ++ wsX20 ++ wsX10 ++ wsX00)
def wsX5_endOrder : List Cond := .code yX5_endOrder cX5_endOrder 3 none :: ([.fieldLink RX5 154 "CoalHulks$Order" "shovellers" "LCoalHulks$Gang;", .fieldLink RX5 116 "CoalHulks$Lighter" "task" "LCoalHulks$Order;", .fieldLink RX5 120 "CoalHulks$Gang" "aboard" "Z", .fieldLink RX5 211 "CoalHulks$Gang" "hoursCounted" "I", .methodLink RX5 139 yX0_lieDown, .instanceMethod yX0_lieDown, .selects RX0 yX0_lieDown yX0_lieDown, .initialized RX0, .code yX0_lieDown cX0_lieDown 1 none, .fieldLink RX0 22 "CoalHulks$Gang" "rest" "I", .fieldLink RX0 25 "CoalHulks$Gang" "hoursCounted" "I"] ++ wsX30 ++ wsX20 ++ wsX00)
def wsX5_workAtHulk_r1 : List Cond := [Cond.fieldLink RX5 151 "CoalHulks$Lighter" "load" "I", Cond.fieldLink RX5 230 "CoalHulks$Lighter" "hold" "I", Cond.fieldLink RX5 128 "CoalHulks$Lighter" "home" "LCoalHulks$Hulk;", Cond.fieldLink RX5 136 "CoalHulks$Hulk" "coal" "I", Cond.fieldLink RX5 154 "CoalHulks$Order" "shovellers" "LCoalHulks$Gang;", Cond.fieldLink RX5 148 "CoalHulks$Lighter" "place" "I", Cond.fieldLink RX5 237 "CoalHulks$Lighter" "hoursOut" "I", Cond.methodLink RX5 233 yX5_shovelFromHulk, Cond.static yX5_shovelFromHulk, Cond.initialized RX5, Cond.code yX5_shovelFromHulk cX5_shovelFromHulk 5 none, Cond.methodLink RX5 243 Lib.Math.min.name, Cond.static Lib.Math.min.name, Cond.initialized "java/lang/Math", Cond.code Lib.Math.min.name Lib.Math.min.code 2 (some .int), Cond.fieldLink RX5 132 "CoalHulks$Lighter" "dust" "I", Cond.methodLink RX5 249 yX0_strength, Cond.instanceMethod yX0_strength, Cond.selects RX0 yX0_strength yX0_strength, Cond.initialized RX0, Cond.code yX0_strength cX0_strength 3 (some .int), Cond.fieldLink RX0 15 "CoalHulks$Gang" "men" "I", Cond.methodLink RX5 240 yX5_endOrder, Cond.static yX5_endOrder]
def wsX5_workAtHulk_r2 : List Cond := [Cond.code yX5_endOrder cX5_endOrder 3 none, Cond.fieldLink RX5 116 "CoalHulks$Lighter" "task" "LCoalHulks$Order;", Cond.fieldLink RX5 120 "CoalHulks$Gang" "aboard" "Z", Cond.fieldLink RX5 211 "CoalHulks$Gang" "hoursCounted" "I", Cond.methodLink RX5 139 yX0_lieDown, Cond.instanceMethod yX0_lieDown, Cond.selects RX0 yX0_lieDown yX0_lieDown, Cond.code yX0_lieDown cX0_lieDown 1 none, Cond.fieldLink RX0 22 "CoalHulks$Gang" "rest" "I", Cond.fieldLink RX0 25 "CoalHulks$Gang" "hoursCounted" "I"]
def wsX5_workAtHulk : List Cond := .code yX5_workAtHulk cX5_workAtHulk 3 none :: ((wsX5_workAtHulk_r1 ++ wsX5_workAtHulk_r2) ++ wsX20 ++ wsX10 ++ wsX30 ++ wsX00)
def wsX5_goOutward : List Cond := .code yX5_goOutward cX5_goOutward 1 none :: ([.fieldLink RX5 237 "CoalHulks$Lighter" "hoursOut" "I", .fieldLink RX5 148 "CoalHulks$Lighter" "place" "I"] ++ wsX20)
def wsX5_shovelIntoSteamer : List Cond := .code yX5_shovelIntoSteamer cX5_shovelIntoSteamer 7 none :: ([.fieldLink RX5 252 "CoalHulks$Order" "target" "LCoalHulks$Steamer;", .fieldLink RX5 151 "CoalHulks$Lighter" "load" "I", .fieldLink RX5 167 "CoalHulks$Steamer" "want" "I", .methodLink RX5 243 Lib.Math.min.name, .static Lib.Math.min.name, .initialized "java/lang/Math", .code Lib.Math.min.name Lib.Math.min.code 2 (some .int), .fieldLink RX5 154 "CoalHulks$Order" "shovellers" "LCoalHulks$Gang;", .fieldLink RX5 132 "CoalHulks$Lighter" "dust" "I", .fieldLink RX5 176 "CoalHulks" "coalDelivered" "I", .methodLink RX5 249 yX0_strength, .instanceMethod yX0_strength, .selects RX0 yX0_strength yX0_strength, .initialized RX0, .code yX0_strength cX0_strength 3 (some .int), .fieldLink RX0 15 "CoalHulks$Gang" "men" "I"] ++ wsX30 ++ wsX20 ++ wsX40 ++ wsX50 ++ wsX00)
def wsX5_workAtSteamer : List Cond := .code yX5_workAtSteamer cX5_workAtSteamer 3 none :: ([.fieldLink RX5 151 "CoalHulks$Lighter" "load" "I", .fieldLink RX5 148 "CoalHulks$Lighter" "place" "I", .fieldLink RX5 252 "CoalHulks$Order" "target" "LCoalHulks$Steamer;", .fieldLink RX5 164 "CoalHulks$Steamer" "fate" "I", .methodLink RX5 256 yX5_shovelIntoSteamer, .instanceMethod yX5_shovelIntoSteamer, .selects RX5 yX5_shovelIntoSteamer yX5_shovelIntoSteamer, .initialized RX5, .code yX5_shovelIntoSteamer cX5_shovelIntoSteamer 7 none, .fieldLink RX5 167 "CoalHulks$Steamer" "want" "I", .methodLink RX5 243 Lib.Math.min.name, .static Lib.Math.min.name, .initialized "java/lang/Math", .code Lib.Math.min.name Lib.Math.min.code 2 (some .int), .fieldLink RX5 154 "CoalHulks$Order" "shovellers" "LCoalHulks$Gang;", .fieldLink RX5 132 "CoalHulks$Lighter" "dust" "I", .fieldLink RX5 176 "CoalHulks" "coalDelivered" "I", .methodLink RX5 249 yX0_strength, .instanceMethod yX0_strength, .selects RX0 yX0_strength yX0_strength, .initialized RX0, .code yX0_strength cX0_strength 3 (some .int), .fieldLink RX0 15 "CoalHulks$Gang" "men" "I"] ++ wsX20 ++ wsX30 ++ wsX40 ++ wsX50 ++ wsX00)
def wsX5_comeHome : List Cond := .code yX5_comeHome cX5_comeHome 2 none :: ([.fieldLink RX5 148 "CoalHulks$Lighter" "place" "I", .methodLink RX5 240 yX5_endOrder, .static yX5_endOrder, .initialized RX5, .code yX5_endOrder cX5_endOrder 3 none, .fieldLink RX5 154 "CoalHulks$Order" "shovellers" "LCoalHulks$Gang;", .fieldLink RX5 116 "CoalHulks$Lighter" "task" "LCoalHulks$Order;", .fieldLink RX5 120 "CoalHulks$Gang" "aboard" "Z", .fieldLink RX5 211 "CoalHulks$Gang" "hoursCounted" "I", .methodLink RX5 139 yX0_lieDown, .instanceMethod yX0_lieDown, .selects RX0 yX0_lieDown yX0_lieDown, .initialized RX0, .code yX0_lieDown cX0_lieDown 1 none, .fieldLink RX0 22 "CoalHulks$Gang" "rest" "I", .fieldLink RX0 25 "CoalHulks$Gang" "hoursCounted" "I"] ++ wsX20 ++ wsX30 ++ wsX00)
def wsX5_work_r1 : List Cond := [Cond.fieldLink RX5 148 "CoalHulks$Lighter" "place" "I", Cond.methodLink RX5 218 yX5_workAtHulk, Cond.static yX5_workAtHulk, Cond.initialized RX5, Cond.code yX5_workAtHulk cX5_workAtHulk 3 none, Cond.fieldLink RX5 151 "CoalHulks$Lighter" "load" "I", Cond.fieldLink RX5 230 "CoalHulks$Lighter" "hold" "I", Cond.fieldLink RX5 128 "CoalHulks$Lighter" "home" "LCoalHulks$Hulk;", Cond.fieldLink RX5 136 "CoalHulks$Hulk" "coal" "I", Cond.fieldLink RX5 154 "CoalHulks$Order" "shovellers" "LCoalHulks$Gang;", Cond.fieldLink RX5 237 "CoalHulks$Lighter" "hoursOut" "I", Cond.methodLink RX5 233 yX5_shovelFromHulk, Cond.static yX5_shovelFromHulk, Cond.code yX5_shovelFromHulk cX5_shovelFromHulk 5 none, Cond.methodLink RX5 243 Lib.Math.min.name, Cond.static Lib.Math.min.name, Cond.initialized "java/lang/Math", Cond.code Lib.Math.min.name Lib.Math.min.code 2 (some .int), Cond.fieldLink RX5 132 "CoalHulks$Lighter" "dust" "I", Cond.methodLink RX5 249 yX0_strength, Cond.instanceMethod yX0_strength, Cond.selects RX0 yX0_strength yX0_strength, Cond.initialized RX0, Cond.code yX0_strength cX0_strength 3 (some .int)]
def wsX5_work_r2 : List Cond := [Cond.fieldLink RX0 15 "CoalHulks$Gang" "men" "I", Cond.methodLink RX5 240 yX5_endOrder, Cond.static yX5_endOrder, Cond.code yX5_endOrder cX5_endOrder 3 none, Cond.fieldLink RX5 116 "CoalHulks$Lighter" "task" "LCoalHulks$Order;", Cond.fieldLink RX5 120 "CoalHulks$Gang" "aboard" "Z", Cond.fieldLink RX5 211 "CoalHulks$Gang" "hoursCounted" "I", Cond.methodLink RX5 139 yX0_lieDown, Cond.instanceMethod yX0_lieDown, Cond.selects RX0 yX0_lieDown yX0_lieDown, Cond.code yX0_lieDown cX0_lieDown 1 none, Cond.fieldLink RX0 22 "CoalHulks$Gang" "rest" "I", Cond.fieldLink RX0 25 "CoalHulks$Gang" "hoursCounted" "I", Cond.methodLink RX5 221 yX5_goOutward, Cond.static yX5_goOutward, Cond.code yX5_goOutward cX5_goOutward 1 none, Cond.methodLink RX5 224 yX5_workAtSteamer, Cond.instanceMethod yX5_workAtSteamer, Cond.selects RX5 yX5_workAtSteamer yX5_workAtSteamer, Cond.code yX5_workAtSteamer cX5_workAtSteamer 3 none, Cond.fieldLink RX5 252 "CoalHulks$Order" "target" "LCoalHulks$Steamer;", Cond.fieldLink RX5 164 "CoalHulks$Steamer" "fate" "I", Cond.methodLink RX5 256 yX5_shovelIntoSteamer, Cond.instanceMethod yX5_shovelIntoSteamer]
def wsX5_work_r3 : List Cond := [Cond.selects RX5 yX5_shovelIntoSteamer yX5_shovelIntoSteamer, Cond.code yX5_shovelIntoSteamer cX5_shovelIntoSteamer 7 none, Cond.fieldLink RX5 167 "CoalHulks$Steamer" "want" "I", Cond.fieldLink RX5 176 "CoalHulks" "coalDelivered" "I", Cond.methodLink RX5 227 yX5_comeHome, Cond.static yX5_comeHome, Cond.code yX5_comeHome cX5_comeHome 2 none]
def wsX5_work : List Cond := .code yX5_work cX5_work 3 none :: ((wsX5_work_r1 ++ (wsX5_work_r2 ++ wsX5_work_r3)) ++ wsX20 ++ wsX10 ++ wsX30 ++ wsX00 ++ wsX40 ++ wsX50)
def wsX5_workLighters_r1 : List Cond := [Cond.fieldLink RX5 16 "CoalHulks" "lighters" "Ljava/util/ArrayList;", Cond.classLink RX5 60 "CoalHulks$Lighter", Cond.fieldLink RX5 116 "CoalHulks$Lighter" "task" "LCoalHulks$Order;", Cond.fieldLink RX5 154 "CoalHulks$Order" "shovellers" "LCoalHulks$Gang;", Cond.fieldLink RX5 211 "CoalHulks$Gang" "hoursCounted" "I", Cond.methodLink RX5 32 yJx4a65c_size_8abf5, Cond.instanceMethod yJx4a65c_size_8abf5, Cond.selects RJx4a65c yJx4a65c_size_8abf5 yJx4a65c_size_8abf5, Cond.initialized RJx4a65c, Cond.code yJx4a65c_size_8abf5 cJx4a65c_size_8abf5 1 (some .int), Cond.fieldLink RJx4a65c 48 "java/util/ArrayList" "size" "I", Cond.methodLink RX5 62 yJx4a65c_get_915e3, Cond.instanceMethod yJx4a65c_get_915e3, Cond.selects RJx4a65c yJx4a65c_get_915e3 yJx4a65c_get_915e3, Cond.code yJx4a65c_get_915e3 cJx4a65c_get_915e3 2 (some (.object "java/lang/Object")), Cond.methodLink RJx4a65c 118 yJ15_checkIndex_7cf53, Cond.static yJ15_checkIndex_7cf53, Cond.initialized RJ15, Cond.code yJ15_checkIndex_7cf53 cJ15_checkIndex_7cf53 2 (some .int), Cond.methodLink RJ15 105 yJ3_checkIndex_8e157, Cond.static yJ3_checkIndex_8e157, Cond.initialized RJ3, Cond.code yJ3_checkIndex_8e157 cJ3_checkIndex_8e157 3 (some .int), Cond.methodLink RJx4a65c 123 yJx4a65c_elementData_915e3]
def wsX5_workLighters_r2 : List Cond := [Cond.instanceMethod yJx4a65c_elementData_915e3, Cond.selects RJx4a65c yJx4a65c_elementData_915e3 yJx4a65c_elementData_915e3, Cond.code yJx4a65c_elementData_915e3 cJx4a65c_elementData_915e3 2 (some (.object "java/lang/Object")), Cond.fieldLink RJx4a65c 9 "java/util/ArrayList" "elementData" "[Ljava/lang/Object;", Cond.methodLink RX5 214 yX5_work, Cond.instanceMethod yX5_work, Cond.selects RX5 yX5_work yX5_work, Cond.initialized RX5, Cond.code yX5_work cX5_work 3 none, Cond.fieldLink RX5 148 "CoalHulks$Lighter" "place" "I", Cond.methodLink RX5 218 yX5_workAtHulk, Cond.static yX5_workAtHulk, Cond.code yX5_workAtHulk cX5_workAtHulk 3 none, Cond.fieldLink RX5 151 "CoalHulks$Lighter" "load" "I", Cond.fieldLink RX5 230 "CoalHulks$Lighter" "hold" "I", Cond.fieldLink RX5 128 "CoalHulks$Lighter" "home" "LCoalHulks$Hulk;", Cond.fieldLink RX5 136 "CoalHulks$Hulk" "coal" "I", Cond.fieldLink RX5 237 "CoalHulks$Lighter" "hoursOut" "I", Cond.methodLink RX5 233 yX5_shovelFromHulk, Cond.static yX5_shovelFromHulk, Cond.code yX5_shovelFromHulk cX5_shovelFromHulk 5 none, Cond.methodLink RX5 243 Lib.Math.min.name, Cond.static Lib.Math.min.name, Cond.initialized "java/lang/Math"]
def wsX5_workLighters_r3 : List Cond := [Cond.code Lib.Math.min.name Lib.Math.min.code 2 (some .int), Cond.fieldLink RX5 132 "CoalHulks$Lighter" "dust" "I", Cond.methodLink RX5 249 yX0_strength, Cond.instanceMethod yX0_strength, Cond.selects RX0 yX0_strength yX0_strength, Cond.initialized RX0, Cond.code yX0_strength cX0_strength 3 (some .int), Cond.fieldLink RX0 15 "CoalHulks$Gang" "men" "I", Cond.methodLink RX5 240 yX5_endOrder, Cond.static yX5_endOrder, Cond.code yX5_endOrder cX5_endOrder 3 none, Cond.fieldLink RX5 120 "CoalHulks$Gang" "aboard" "Z", Cond.methodLink RX5 139 yX0_lieDown, Cond.instanceMethod yX0_lieDown, Cond.selects RX0 yX0_lieDown yX0_lieDown, Cond.code yX0_lieDown cX0_lieDown 1 none, Cond.fieldLink RX0 22 "CoalHulks$Gang" "rest" "I", Cond.fieldLink RX0 25 "CoalHulks$Gang" "hoursCounted" "I", Cond.methodLink RX5 221 yX5_goOutward, Cond.static yX5_goOutward, Cond.code yX5_goOutward cX5_goOutward 1 none, Cond.methodLink RX5 224 yX5_workAtSteamer, Cond.instanceMethod yX5_workAtSteamer, Cond.selects RX5 yX5_workAtSteamer yX5_workAtSteamer]
def wsX5_workLighters_r4 : List Cond := [Cond.code yX5_workAtSteamer cX5_workAtSteamer 3 none, Cond.fieldLink RX5 252 "CoalHulks$Order" "target" "LCoalHulks$Steamer;", Cond.fieldLink RX5 164 "CoalHulks$Steamer" "fate" "I", Cond.methodLink RX5 256 yX5_shovelIntoSteamer, Cond.instanceMethod yX5_shovelIntoSteamer, Cond.selects RX5 yX5_shovelIntoSteamer yX5_shovelIntoSteamer, Cond.code yX5_shovelIntoSteamer cX5_shovelIntoSteamer 7 none, Cond.fieldLink RX5 167 "CoalHulks$Steamer" "want" "I", Cond.fieldLink RX5 176 "CoalHulks" "coalDelivered" "I", Cond.methodLink RX5 227 yX5_comeHome, Cond.static yX5_comeHome, Cond.code yX5_comeHome cX5_comeHome 2 none]
def wsX5_workLighters : List Cond := .code yX5_workLighters cX5_workLighters 4 none :: ((wsX5_workLighters_r1 ++ (wsX5_workLighters_r2 ++ (wsX5_workLighters_r3 ++ wsX5_workLighters_r4))) ++ wsX50 ++ wsX20 ++ wsX30 ++ wsX00 ++ wsJx4a65c0 ++ wsX10 ++ wsX40)
def wsX5_recall : List Cond := .code yX5_recall cX5_recall 2 none :: ([.fieldLink RX5 148 "CoalHulks$Lighter" "place" "I", .methodLink RX5 240 yX5_endOrder, .static yX5_endOrder, .initialized RX5, .code yX5_endOrder cX5_endOrder 3 none, .fieldLink RX5 154 "CoalHulks$Order" "shovellers" "LCoalHulks$Gang;", .fieldLink RX5 116 "CoalHulks$Lighter" "task" "LCoalHulks$Order;", .fieldLink RX5 120 "CoalHulks$Gang" "aboard" "Z", .fieldLink RX5 211 "CoalHulks$Gang" "hoursCounted" "I", .methodLink RX5 139 yX0_lieDown, .instanceMethod yX0_lieDown, .selects RX0 yX0_lieDown yX0_lieDown, .initialized RX0, .code yX0_lieDown cX0_lieDown 1 none, .fieldLink RX0 22 "CoalHulks$Gang" "rest" "I", .fieldLink RX0 25 "CoalHulks$Gang" "hoursCounted" "I"] ++ wsX20 ++ wsX30 ++ wsX00)
def wsX5_recallLighters_r1 : List Cond := [Cond.fieldLink RX5 16 "CoalHulks" "lighters" "Ljava/util/ArrayList;", Cond.classLink RX5 60 "CoalHulks$Lighter", Cond.fieldLink RX5 116 "CoalHulks$Lighter" "task" "LCoalHulks$Order;", Cond.fieldLink RX5 252 "CoalHulks$Order" "target" "LCoalHulks$Steamer;", Cond.methodLink RX5 32 yJx4a65c_size_8abf5, Cond.instanceMethod yJx4a65c_size_8abf5, Cond.selects RJx4a65c yJx4a65c_size_8abf5 yJx4a65c_size_8abf5, Cond.initialized RJx4a65c, Cond.code yJx4a65c_size_8abf5 cJx4a65c_size_8abf5 1 (some .int), Cond.fieldLink RJx4a65c 48 "java/util/ArrayList" "size" "I", Cond.methodLink RX5 62 yJx4a65c_get_915e3, Cond.instanceMethod yJx4a65c_get_915e3, Cond.selects RJx4a65c yJx4a65c_get_915e3 yJx4a65c_get_915e3, Cond.code yJx4a65c_get_915e3 cJx4a65c_get_915e3 2 (some (.object "java/lang/Object")), Cond.methodLink RJx4a65c 118 yJ15_checkIndex_7cf53, Cond.static yJ15_checkIndex_7cf53, Cond.initialized RJ15, Cond.code yJ15_checkIndex_7cf53 cJ15_checkIndex_7cf53 2 (some .int), Cond.methodLink RJ15 105 yJ3_checkIndex_8e157, Cond.static yJ3_checkIndex_8e157, Cond.initialized RJ3, Cond.code yJ3_checkIndex_8e157 cJ3_checkIndex_8e157 3 (some .int), Cond.methodLink RJx4a65c 123 yJx4a65c_elementData_915e3, Cond.instanceMethod yJx4a65c_elementData_915e3]
def wsX5_recallLighters_r2 : List Cond := [Cond.selects RJx4a65c yJx4a65c_elementData_915e3 yJx4a65c_elementData_915e3, Cond.code yJx4a65c_elementData_915e3 cJx4a65c_elementData_915e3 2 (some (.object "java/lang/Object")), Cond.fieldLink RJx4a65c 9 "java/util/ArrayList" "elementData" "[Ljava/lang/Object;", Cond.methodLink RX5 269 yX5_recall, Cond.static yX5_recall, Cond.initialized RX5, Cond.code yX5_recall cX5_recall 2 none, Cond.fieldLink RX5 148 "CoalHulks$Lighter" "place" "I", Cond.methodLink RX5 240 yX5_endOrder, Cond.static yX5_endOrder, Cond.code yX5_endOrder cX5_endOrder 3 none, Cond.fieldLink RX5 154 "CoalHulks$Order" "shovellers" "LCoalHulks$Gang;", Cond.fieldLink RX5 120 "CoalHulks$Gang" "aboard" "Z", Cond.fieldLink RX5 211 "CoalHulks$Gang" "hoursCounted" "I", Cond.methodLink RX5 139 yX0_lieDown, Cond.instanceMethod yX0_lieDown, Cond.selects RX0 yX0_lieDown yX0_lieDown, Cond.initialized RX0, Cond.code yX0_lieDown cX0_lieDown 1 none, Cond.fieldLink RX0 22 "CoalHulks$Gang" "rest" "I", Cond.fieldLink RX0 25 "CoalHulks$Gang" "hoursCounted" "I"]
def wsX5_recallLighters : List Cond := .code yX5_recallLighters cX5_recallLighters 5 none :: ((wsX5_recallLighters_r1 ++ wsX5_recallLighters_r2) ++ wsX50 ++ wsX20 ++ wsX30 ++ wsJx4a65c0 ++ wsX00)
def wsJx4a65c_fastRemove_b59b0 : List Cond := .code yJx4a65c_fastRemove_b59b0 cJx4a65c_fastRemove_b59b0 4 none :: ([.fieldLink RJx4a65c 63 "java/util/ArrayList" "modCount" "I", .sameField "java/util/ArrayList" "java/util/AbstractList" "modCount" "I", .fieldLink RJx4a65c 48 "java/util/ArrayList" "size" "I", .methodLink RJx4a65c 112 arraycopyName, .native arraycopyName, .static arraycopyName, .initialized "java/lang/System"] ++ wsJx4a65c0)
def wsJx4a65c_remove_915e3 : List Cond := .code yJx4a65c_remove_915e3 cJx4a65c_remove_915e3 4 (some (.object "java/lang/Object")) :: ([.fieldLink RJx4a65c 48 "java/util/ArrayList" "size" "I", .fieldLink RJx4a65c 9 "java/util/ArrayList" "elementData" "[Ljava/lang/Object;", .methodLink RJx4a65c 118 yJ15_checkIndex_7cf53, .static yJ15_checkIndex_7cf53, .initialized RJ15, .code yJ15_checkIndex_7cf53 cJ15_checkIndex_7cf53 2 (some .int), .methodLink RJ15 105 yJ3_checkIndex_8e157, .static yJ3_checkIndex_8e157, .initialized RJ3, .code yJ3_checkIndex_8e157 cJ3_checkIndex_8e157 3 (some .int), .methodLink RJx4a65c 144 yJx4a65c_fastRemove_b59b0, .instanceMethod yJx4a65c_fastRemove_b59b0, .selects RJx4a65c yJx4a65c_fastRemove_b59b0 yJx4a65c_fastRemove_b59b0, .initialized RJx4a65c, .code yJx4a65c_fastRemove_b59b0 cJx4a65c_fastRemove_b59b0 4 none, .fieldLink RJx4a65c 63 "java/util/ArrayList" "modCount" "I", .sameField "java/util/ArrayList" "java/util/AbstractList" "modCount" "I", .methodLink RJx4a65c 112 arraycopyName, .native arraycopyName, .static arraycopyName, .initialized "java/lang/System"] ++ wsJx4a65c0)
def wsX5_forgetTheLeft_r1 : List Cond := [Cond.fieldLink RX5 25 "CoalHulks" "present" "Ljava/util/ArrayList;", Cond.classLink RX5 82 "CoalHulks$Steamer", Cond.methodLink RX5 32 yJx4a65c_size_8abf5, Cond.instanceMethod yJx4a65c_size_8abf5, Cond.selects RJx4a65c yJx4a65c_size_8abf5 yJx4a65c_size_8abf5, Cond.initialized RJx4a65c, Cond.code yJx4a65c_size_8abf5 cJx4a65c_size_8abf5 1 (some .int), Cond.fieldLink RJx4a65c 48 "java/util/ArrayList" "size" "I", Cond.methodLink RX5 62 yJx4a65c_get_915e3, Cond.instanceMethod yJx4a65c_get_915e3, Cond.selects RJx4a65c yJx4a65c_get_915e3 yJx4a65c_get_915e3, Cond.code yJx4a65c_get_915e3 cJx4a65c_get_915e3 2 (some (.object "java/lang/Object")), Cond.methodLink RJx4a65c 118 yJ15_checkIndex_7cf53, Cond.static yJ15_checkIndex_7cf53, Cond.initialized RJ15, Cond.code yJ15_checkIndex_7cf53 cJ15_checkIndex_7cf53 2 (some .int), Cond.methodLink RJ15 105 yJ3_checkIndex_8e157, Cond.static yJ3_checkIndex_8e157, Cond.initialized RJ3, Cond.code yJ3_checkIndex_8e157 cJ3_checkIndex_8e157 3 (some .int), Cond.methodLink RJx4a65c 123 yJx4a65c_elementData_915e3, Cond.instanceMethod yJx4a65c_elementData_915e3, Cond.selects RJx4a65c yJx4a65c_elementData_915e3 yJx4a65c_elementData_915e3, Cond.code yJx4a65c_elementData_915e3 cJx4a65c_elementData_915e3 2 (some (.object "java/lang/Object"))]
def wsX5_forgetTheLeft_r2 : List Cond := [Cond.fieldLink RJx4a65c 9 "java/util/ArrayList" "elementData" "[Ljava/lang/Object;", Cond.methodLink RX5 106 yX4_hasLeft, Cond.instanceMethod yX4_hasLeft, Cond.selects RX4 yX4_hasLeft yX4_hasLeft, Cond.initialized RX4, Cond.code yX4_hasLeft cX4_hasLeft 1 (some .boolean), Cond.fieldLink RX4 21 "CoalHulks$Steamer" "fate" "I", Cond.methodLink RX5 272 yJx4a65c_remove_915e3, Cond.instanceMethod yJx4a65c_remove_915e3, Cond.selects RJx4a65c yJx4a65c_remove_915e3 yJx4a65c_remove_915e3, Cond.code yJx4a65c_remove_915e3 cJx4a65c_remove_915e3 4 (some (.object "java/lang/Object")), Cond.methodLink RJx4a65c 144 yJx4a65c_fastRemove_b59b0, Cond.instanceMethod yJx4a65c_fastRemove_b59b0, Cond.selects RJx4a65c yJx4a65c_fastRemove_b59b0 yJx4a65c_fastRemove_b59b0, Cond.code yJx4a65c_fastRemove_b59b0 cJx4a65c_fastRemove_b59b0 4 none, Cond.fieldLink RJx4a65c 63 "java/util/ArrayList" "modCount" "I", Cond.sameField "java/util/ArrayList" "java/util/AbstractList" "modCount" "I", Cond.methodLink RJx4a65c 112 arraycopyName, Cond.native arraycopyName, Cond.static arraycopyName, Cond.initialized "java/lang/System"]
def wsX5_forgetTheLeft : List Cond := .code yX5_forgetTheLeft cX5_forgetTheLeft 2 none :: ((wsX5_forgetTheLeft_r1 ++ wsX5_forgetTheLeft_r2) ++ wsX50 ++ wsJx4a65c0 ++ wsX40)
def wsX5_letSteamersLeave_r1 : List Cond := [Cond.fieldLink RX5 25 "CoalHulks" "present" "Ljava/util/ArrayList;", Cond.classLink RX5 82 "CoalHulks$Steamer", Cond.fieldLink RX5 259 "CoalHulks$Steamer" "patience" "I", Cond.fieldLink RX5 167 "CoalHulks$Steamer" "want" "I", Cond.fieldLink RX5 164 "CoalHulks$Steamer" "fate" "I", Cond.methodLink RX5 32 yJx4a65c_size_8abf5, Cond.instanceMethod yJx4a65c_size_8abf5, Cond.selects RJx4a65c yJx4a65c_size_8abf5 yJx4a65c_size_8abf5, Cond.initialized RJx4a65c, Cond.code yJx4a65c_size_8abf5 cJx4a65c_size_8abf5 1 (some .int), Cond.fieldLink RJx4a65c 48 "java/util/ArrayList" "size" "I", Cond.methodLink RX5 62 yJx4a65c_get_915e3, Cond.instanceMethod yJx4a65c_get_915e3, Cond.selects RJx4a65c yJx4a65c_get_915e3 yJx4a65c_get_915e3, Cond.code yJx4a65c_get_915e3 cJx4a65c_get_915e3 2 (some (.object "java/lang/Object")), Cond.methodLink RJx4a65c 118 yJ15_checkIndex_7cf53, Cond.static yJ15_checkIndex_7cf53, Cond.initialized RJ15, Cond.code yJ15_checkIndex_7cf53 cJ15_checkIndex_7cf53 2 (some .int), Cond.methodLink RJ15 105 yJ3_checkIndex_8e157, Cond.static yJ3_checkIndex_8e157, Cond.initialized RJ3, Cond.code yJ3_checkIndex_8e157 cJ3_checkIndex_8e157 3 (some .int), Cond.methodLink RJx4a65c 123 yJx4a65c_elementData_915e3]
def wsX5_letSteamersLeave_r2 : List Cond := [Cond.instanceMethod yJx4a65c_elementData_915e3, Cond.selects RJx4a65c yJx4a65c_elementData_915e3 yJx4a65c_elementData_915e3, Cond.code yJx4a65c_elementData_915e3 cJx4a65c_elementData_915e3 2 (some (.object "java/lang/Object")), Cond.fieldLink RJx4a65c 9 "java/util/ArrayList" "elementData" "[Ljava/lang/Object;", Cond.methodLink RX5 262 yX5_recallLighters, Cond.instanceMethod yX5_recallLighters, Cond.selects RX5 yX5_recallLighters yX5_recallLighters, Cond.initialized RX5, Cond.code yX5_recallLighters cX5_recallLighters 5 none, Cond.fieldLink RX5 16 "CoalHulks" "lighters" "Ljava/util/ArrayList;", Cond.classLink RX5 60 "CoalHulks$Lighter", Cond.fieldLink RX5 116 "CoalHulks$Lighter" "task" "LCoalHulks$Order;", Cond.fieldLink RX5 252 "CoalHulks$Order" "target" "LCoalHulks$Steamer;", Cond.methodLink RX5 269 yX5_recall, Cond.static yX5_recall, Cond.code yX5_recall cX5_recall 2 none, Cond.fieldLink RX5 148 "CoalHulks$Lighter" "place" "I", Cond.methodLink RX5 240 yX5_endOrder, Cond.static yX5_endOrder, Cond.code yX5_endOrder cX5_endOrder 3 none, Cond.fieldLink RX5 154 "CoalHulks$Order" "shovellers" "LCoalHulks$Gang;", Cond.fieldLink RX5 120 "CoalHulks$Gang" "aboard" "Z", Cond.fieldLink RX5 211 "CoalHulks$Gang" "hoursCounted" "I", Cond.methodLink RX5 139 yX0_lieDown]
def wsX5_letSteamersLeave_r3 : List Cond := [Cond.instanceMethod yX0_lieDown, Cond.selects RX0 yX0_lieDown yX0_lieDown, Cond.initialized RX0, Cond.code yX0_lieDown cX0_lieDown 1 none, Cond.fieldLink RX0 22 "CoalHulks$Gang" "rest" "I", Cond.fieldLink RX0 25 "CoalHulks$Gang" "hoursCounted" "I", Cond.methodLink RX5 266 yX5_forgetTheLeft, Cond.instanceMethod yX5_forgetTheLeft, Cond.selects RX5 yX5_forgetTheLeft yX5_forgetTheLeft, Cond.code yX5_forgetTheLeft cX5_forgetTheLeft 2 none, Cond.methodLink RX5 106 yX4_hasLeft, Cond.instanceMethod yX4_hasLeft, Cond.selects RX4 yX4_hasLeft yX4_hasLeft, Cond.initialized RX4, Cond.code yX4_hasLeft cX4_hasLeft 1 (some .boolean), Cond.fieldLink RX4 21 "CoalHulks$Steamer" "fate" "I", Cond.methodLink RX5 272 yJx4a65c_remove_915e3, Cond.instanceMethod yJx4a65c_remove_915e3, Cond.selects RJx4a65c yJx4a65c_remove_915e3 yJx4a65c_remove_915e3, Cond.code yJx4a65c_remove_915e3 cJx4a65c_remove_915e3 4 (some (.object "java/lang/Object")), Cond.methodLink RJx4a65c 144 yJx4a65c_fastRemove_b59b0, Cond.instanceMethod yJx4a65c_fastRemove_b59b0, Cond.selects RJx4a65c yJx4a65c_fastRemove_b59b0 yJx4a65c_fastRemove_b59b0, Cond.code yJx4a65c_fastRemove_b59b0 cJx4a65c_fastRemove_b59b0 4 none]
def wsX5_letSteamersLeave_r4 : List Cond := [Cond.fieldLink RJx4a65c 63 "java/util/ArrayList" "modCount" "I", Cond.sameField "java/util/ArrayList" "java/util/AbstractList" "modCount" "I", Cond.methodLink RJx4a65c 112 arraycopyName, Cond.native arraycopyName, Cond.static arraycopyName, Cond.initialized "java/lang/System"]
def wsX5_letSteamersLeave : List Cond := .code yX5_letSteamersLeave cX5_letSteamersLeave 4 (some .int) :: ((wsX5_letSteamersLeave_r1 ++ (wsX5_letSteamersLeave_r2 ++ (wsX5_letSteamersLeave_r3 ++ wsX5_letSteamersLeave_r4))) ++ wsX50 ++ wsX40 ++ wsJx4a65c0 ++ wsX20 ++ wsX30 ++ wsX00)
def wsX5_passAnHour_r1 : List Cond := [Cond.fieldLink RX5 145 "CoalHulks" "hoursGone" "I", Cond.methodLink RX5 199 yX5_restGangs, Cond.instanceMethod yX5_restGangs, Cond.selects RX5 yX5_restGangs yX5_restGangs, Cond.initialized RX5, Cond.code yX5_restGangs cX5_restGangs 3 none, Cond.fieldLink RX5 19 "CoalHulks" "gangs" "Ljava/util/ArrayList;", Cond.classLink RX5 71 "CoalHulks$Gang", Cond.fieldLink RX5 161 "CoalHulks$Gang" "rest" "I", Cond.methodLink RX5 32 yJx4a65c_size_8abf5, Cond.instanceMethod yJx4a65c_size_8abf5, Cond.selects RJx4a65c yJx4a65c_size_8abf5 yJx4a65c_size_8abf5, Cond.initialized RJx4a65c, Cond.code yJx4a65c_size_8abf5 cJx4a65c_size_8abf5 1 (some .int), Cond.fieldLink RJx4a65c 48 "java/util/ArrayList" "size" "I", Cond.methodLink RX5 62 yJx4a65c_get_915e3, Cond.instanceMethod yJx4a65c_get_915e3, Cond.selects RJx4a65c yJx4a65c_get_915e3 yJx4a65c_get_915e3, Cond.code yJx4a65c_get_915e3 cJx4a65c_get_915e3 2 (some (.object "java/lang/Object")), Cond.methodLink RJx4a65c 118 yJ15_checkIndex_7cf53, Cond.static yJ15_checkIndex_7cf53, Cond.initialized RJ15, Cond.code yJ15_checkIndex_7cf53 cJ15_checkIndex_7cf53 2 (some .int), Cond.methodLink RJ15 105 yJ3_checkIndex_8e157]
def wsX5_passAnHour_r2 : List Cond := [Cond.static yJ3_checkIndex_8e157, Cond.initialized RJ3, Cond.code yJ3_checkIndex_8e157 cJ3_checkIndex_8e157 3 (some .int), Cond.methodLink RJx4a65c 123 yJx4a65c_elementData_915e3, Cond.instanceMethod yJx4a65c_elementData_915e3, Cond.selects RJx4a65c yJx4a65c_elementData_915e3 yJx4a65c_elementData_915e3, Cond.code yJx4a65c_elementData_915e3 cJx4a65c_elementData_915e3 2 (some (.object "java/lang/Object")), Cond.fieldLink RJx4a65c 9 "java/util/ArrayList" "elementData" "[Ljava/lang/Object;", Cond.methodLink RX5 202 yX5_takeBuoys, Cond.instanceMethod yX5_takeBuoys, Cond.selects RX5 yX5_takeBuoys yX5_takeBuoys, Cond.code yX5_takeBuoys cX5_takeBuoys 4 none, Cond.fieldLink RX5 25 "CoalHulks" "present" "Ljava/util/ArrayList;", Cond.classLink RX5 82 "CoalHulks$Steamer", Cond.fieldLink RX5 164 "CoalHulks$Steamer" "fate" "I", Cond.methodLink RX5 76 yX5_countFaring, Cond.instanceMethod yX5_countFaring, Cond.selects RX5 yX5_countFaring yX5_countFaring, Cond.code yX5_countFaring cX5_countFaring 4 (some .int), Cond.methodLink RX5 205 yX5_workLighters, Cond.instanceMethod yX5_workLighters, Cond.selects RX5 yX5_workLighters yX5_workLighters, Cond.code yX5_workLighters cX5_workLighters 4 none, Cond.fieldLink RX5 16 "CoalHulks" "lighters" "Ljava/util/ArrayList;"]
def wsX5_passAnHour_r3 : List Cond := [Cond.classLink RX5 60 "CoalHulks$Lighter", Cond.fieldLink RX5 116 "CoalHulks$Lighter" "task" "LCoalHulks$Order;", Cond.fieldLink RX5 154 "CoalHulks$Order" "shovellers" "LCoalHulks$Gang;", Cond.fieldLink RX5 211 "CoalHulks$Gang" "hoursCounted" "I", Cond.methodLink RX5 214 yX5_work, Cond.instanceMethod yX5_work, Cond.selects RX5 yX5_work yX5_work, Cond.code yX5_work cX5_work 3 none, Cond.fieldLink RX5 148 "CoalHulks$Lighter" "place" "I", Cond.methodLink RX5 218 yX5_workAtHulk, Cond.static yX5_workAtHulk, Cond.code yX5_workAtHulk cX5_workAtHulk 3 none, Cond.fieldLink RX5 151 "CoalHulks$Lighter" "load" "I", Cond.fieldLink RX5 230 "CoalHulks$Lighter" "hold" "I", Cond.fieldLink RX5 128 "CoalHulks$Lighter" "home" "LCoalHulks$Hulk;", Cond.fieldLink RX5 136 "CoalHulks$Hulk" "coal" "I", Cond.fieldLink RX5 237 "CoalHulks$Lighter" "hoursOut" "I", Cond.methodLink RX5 233 yX5_shovelFromHulk, Cond.static yX5_shovelFromHulk, Cond.code yX5_shovelFromHulk cX5_shovelFromHulk 5 none, Cond.methodLink RX5 243 Lib.Math.min.name, Cond.static Lib.Math.min.name, Cond.initialized "java/lang/Math", Cond.code Lib.Math.min.name Lib.Math.min.code 2 (some .int)]
def wsX5_passAnHour_r4 : List Cond := [Cond.fieldLink RX5 132 "CoalHulks$Lighter" "dust" "I", Cond.methodLink RX5 249 yX0_strength, Cond.instanceMethod yX0_strength, Cond.selects RX0 yX0_strength yX0_strength, Cond.initialized RX0, Cond.code yX0_strength cX0_strength 3 (some .int), Cond.fieldLink RX0 15 "CoalHulks$Gang" "men" "I", Cond.methodLink RX5 240 yX5_endOrder, Cond.static yX5_endOrder, Cond.code yX5_endOrder cX5_endOrder 3 none, Cond.fieldLink RX5 120 "CoalHulks$Gang" "aboard" "Z", Cond.methodLink RX5 139 yX0_lieDown, Cond.instanceMethod yX0_lieDown, Cond.selects RX0 yX0_lieDown yX0_lieDown, Cond.code yX0_lieDown cX0_lieDown 1 none, Cond.fieldLink RX0 22 "CoalHulks$Gang" "rest" "I", Cond.fieldLink RX0 25 "CoalHulks$Gang" "hoursCounted" "I", Cond.methodLink RX5 221 yX5_goOutward, Cond.static yX5_goOutward, Cond.code yX5_goOutward cX5_goOutward 1 none, Cond.methodLink RX5 224 yX5_workAtSteamer, Cond.instanceMethod yX5_workAtSteamer, Cond.selects RX5 yX5_workAtSteamer yX5_workAtSteamer, Cond.code yX5_workAtSteamer cX5_workAtSteamer 3 none]
def wsX5_passAnHour_r5 : List Cond := [Cond.fieldLink RX5 252 "CoalHulks$Order" "target" "LCoalHulks$Steamer;", Cond.methodLink RX5 256 yX5_shovelIntoSteamer, Cond.instanceMethod yX5_shovelIntoSteamer, Cond.selects RX5 yX5_shovelIntoSteamer yX5_shovelIntoSteamer, Cond.code yX5_shovelIntoSteamer cX5_shovelIntoSteamer 7 none, Cond.fieldLink RX5 167 "CoalHulks$Steamer" "want" "I", Cond.fieldLink RX5 176 "CoalHulks" "coalDelivered" "I", Cond.methodLink RX5 227 yX5_comeHome, Cond.static yX5_comeHome, Cond.code yX5_comeHome cX5_comeHome 2 none, Cond.methodLink RX5 208 yX5_letSteamersLeave, Cond.instanceMethod yX5_letSteamersLeave, Cond.selects RX5 yX5_letSteamersLeave yX5_letSteamersLeave, Cond.code yX5_letSteamersLeave cX5_letSteamersLeave 4 (some .int), Cond.fieldLink RX5 259 "CoalHulks$Steamer" "patience" "I", Cond.methodLink RX5 262 yX5_recallLighters, Cond.instanceMethod yX5_recallLighters, Cond.selects RX5 yX5_recallLighters yX5_recallLighters, Cond.code yX5_recallLighters cX5_recallLighters 5 none, Cond.methodLink RX5 269 yX5_recall, Cond.static yX5_recall, Cond.code yX5_recall cX5_recall 2 none, Cond.methodLink RX5 266 yX5_forgetTheLeft, Cond.instanceMethod yX5_forgetTheLeft]
def wsX5_passAnHour_r6 : List Cond := [Cond.selects RX5 yX5_forgetTheLeft yX5_forgetTheLeft, Cond.code yX5_forgetTheLeft cX5_forgetTheLeft 2 none, Cond.methodLink RX5 106 yX4_hasLeft, Cond.instanceMethod yX4_hasLeft, Cond.selects RX4 yX4_hasLeft yX4_hasLeft, Cond.initialized RX4, Cond.code yX4_hasLeft cX4_hasLeft 1 (some .boolean), Cond.fieldLink RX4 21 "CoalHulks$Steamer" "fate" "I", Cond.methodLink RX5 272 yJx4a65c_remove_915e3, Cond.instanceMethod yJx4a65c_remove_915e3, Cond.selects RJx4a65c yJx4a65c_remove_915e3 yJx4a65c_remove_915e3, Cond.code yJx4a65c_remove_915e3 cJx4a65c_remove_915e3 4 (some (.object "java/lang/Object")), Cond.methodLink RJx4a65c 144 yJx4a65c_fastRemove_b59b0, Cond.instanceMethod yJx4a65c_fastRemove_b59b0, Cond.selects RJx4a65c yJx4a65c_fastRemove_b59b0 yJx4a65c_fastRemove_b59b0, Cond.code yJx4a65c_fastRemove_b59b0 cJx4a65c_fastRemove_b59b0 4 none, Cond.fieldLink RJx4a65c 63 "java/util/ArrayList" "modCount" "I", Cond.sameField "java/util/ArrayList" "java/util/AbstractList" "modCount" "I", Cond.methodLink RJx4a65c 112 arraycopyName, Cond.native arraycopyName, Cond.static arraycopyName, Cond.initialized "java/lang/System"]
def wsX5_passAnHour : List Cond := .code yX5_passAnHour cX5_passAnHour 2 (some .int) :: ((wsX5_passAnHour_r1 ++ (wsX5_passAnHour_r2 ++ (wsX5_passAnHour_r3 ++ (wsX5_passAnHour_r4 ++ (wsX5_passAnHour_r5 ++ wsX5_passAnHour_r6))))) ++ wsX50 ++ wsX00 ++ wsJx4a65c0 ++ wsX40 ++ wsX20 ++ wsX30 ++ wsX10)
def wsX5_hours_r1 : List Cond := [Cond.methodLink RX5 28 yX5_refuseOutOfRange, Cond.static yX5_refuseOutOfRange, Cond.initialized RX5, Cond.code yX5_refuseOutOfRange cX5_refuseOutOfRange 3 none, Cond.classLink RX5 170 "java/lang/IllegalArgumentException", Cond.initialized "java/lang/IllegalArgumentException", Cond.methodLink RX5 142 yX5_passAnHour, Cond.instanceMethod yX5_passAnHour, Cond.selects RX5 yX5_passAnHour yX5_passAnHour, Cond.code yX5_passAnHour cX5_passAnHour 2 (some .int), Cond.fieldLink RX5 145 "CoalHulks" "hoursGone" "I", Cond.methodLink RX5 199 yX5_restGangs, Cond.instanceMethod yX5_restGangs, Cond.selects RX5 yX5_restGangs yX5_restGangs, Cond.code yX5_restGangs cX5_restGangs 3 none, Cond.fieldLink RX5 19 "CoalHulks" "gangs" "Ljava/util/ArrayList;", Cond.classLink RX5 71 "CoalHulks$Gang", Cond.fieldLink RX5 161 "CoalHulks$Gang" "rest" "I", Cond.methodLink RX5 32 yJx4a65c_size_8abf5, Cond.instanceMethod yJx4a65c_size_8abf5, Cond.selects RJx4a65c yJx4a65c_size_8abf5 yJx4a65c_size_8abf5, Cond.initialized RJx4a65c, Cond.code yJx4a65c_size_8abf5 cJx4a65c_size_8abf5 1 (some .int), Cond.fieldLink RJx4a65c 48 "java/util/ArrayList" "size" "I"]
def wsX5_hours_r2 : List Cond := [Cond.methodLink RX5 62 yJx4a65c_get_915e3, Cond.instanceMethod yJx4a65c_get_915e3, Cond.selects RJx4a65c yJx4a65c_get_915e3 yJx4a65c_get_915e3, Cond.code yJx4a65c_get_915e3 cJx4a65c_get_915e3 2 (some (.object "java/lang/Object")), Cond.methodLink RJx4a65c 118 yJ15_checkIndex_7cf53, Cond.static yJ15_checkIndex_7cf53, Cond.initialized RJ15, Cond.code yJ15_checkIndex_7cf53 cJ15_checkIndex_7cf53 2 (some .int), Cond.methodLink RJ15 105 yJ3_checkIndex_8e157, Cond.static yJ3_checkIndex_8e157, Cond.initialized RJ3, Cond.code yJ3_checkIndex_8e157 cJ3_checkIndex_8e157 3 (some .int), Cond.methodLink RJx4a65c 123 yJx4a65c_elementData_915e3, Cond.instanceMethod yJx4a65c_elementData_915e3, Cond.selects RJx4a65c yJx4a65c_elementData_915e3 yJx4a65c_elementData_915e3, Cond.code yJx4a65c_elementData_915e3 cJx4a65c_elementData_915e3 2 (some (.object "java/lang/Object")), Cond.fieldLink RJx4a65c 9 "java/util/ArrayList" "elementData" "[Ljava/lang/Object;", Cond.methodLink RX5 202 yX5_takeBuoys, Cond.instanceMethod yX5_takeBuoys, Cond.selects RX5 yX5_takeBuoys yX5_takeBuoys, Cond.code yX5_takeBuoys cX5_takeBuoys 4 none, Cond.fieldLink RX5 25 "CoalHulks" "present" "Ljava/util/ArrayList;", Cond.classLink RX5 82 "CoalHulks$Steamer", Cond.fieldLink RX5 164 "CoalHulks$Steamer" "fate" "I"]
def wsX5_hours_r3 : List Cond := [Cond.methodLink RX5 76 yX5_countFaring, Cond.instanceMethod yX5_countFaring, Cond.selects RX5 yX5_countFaring yX5_countFaring, Cond.code yX5_countFaring cX5_countFaring 4 (some .int), Cond.methodLink RX5 205 yX5_workLighters, Cond.instanceMethod yX5_workLighters, Cond.selects RX5 yX5_workLighters yX5_workLighters, Cond.code yX5_workLighters cX5_workLighters 4 none, Cond.fieldLink RX5 16 "CoalHulks" "lighters" "Ljava/util/ArrayList;", Cond.classLink RX5 60 "CoalHulks$Lighter", Cond.fieldLink RX5 116 "CoalHulks$Lighter" "task" "LCoalHulks$Order;", Cond.fieldLink RX5 154 "CoalHulks$Order" "shovellers" "LCoalHulks$Gang;", Cond.fieldLink RX5 211 "CoalHulks$Gang" "hoursCounted" "I", Cond.methodLink RX5 214 yX5_work, Cond.instanceMethod yX5_work, Cond.selects RX5 yX5_work yX5_work, Cond.code yX5_work cX5_work 3 none, Cond.fieldLink RX5 148 "CoalHulks$Lighter" "place" "I", Cond.methodLink RX5 218 yX5_workAtHulk, Cond.static yX5_workAtHulk, Cond.code yX5_workAtHulk cX5_workAtHulk 3 none, Cond.fieldLink RX5 151 "CoalHulks$Lighter" "load" "I", Cond.fieldLink RX5 230 "CoalHulks$Lighter" "hold" "I", Cond.fieldLink RX5 128 "CoalHulks$Lighter" "home" "LCoalHulks$Hulk;"]
def wsX5_hours_r4 : List Cond := [Cond.fieldLink RX5 136 "CoalHulks$Hulk" "coal" "I", Cond.fieldLink RX5 237 "CoalHulks$Lighter" "hoursOut" "I", Cond.methodLink RX5 233 yX5_shovelFromHulk, Cond.static yX5_shovelFromHulk, Cond.code yX5_shovelFromHulk cX5_shovelFromHulk 5 none, Cond.methodLink RX5 243 Lib.Math.min.name, Cond.static Lib.Math.min.name, Cond.initialized "java/lang/Math", Cond.code Lib.Math.min.name Lib.Math.min.code 2 (some .int), Cond.fieldLink RX5 132 "CoalHulks$Lighter" "dust" "I", Cond.methodLink RX5 249 yX0_strength, Cond.instanceMethod yX0_strength, Cond.selects RX0 yX0_strength yX0_strength, Cond.initialized RX0, Cond.code yX0_strength cX0_strength 3 (some .int), Cond.fieldLink RX0 15 "CoalHulks$Gang" "men" "I", Cond.methodLink RX5 240 yX5_endOrder, Cond.static yX5_endOrder, Cond.code yX5_endOrder cX5_endOrder 3 none, Cond.fieldLink RX5 120 "CoalHulks$Gang" "aboard" "Z", Cond.methodLink RX5 139 yX0_lieDown, Cond.instanceMethod yX0_lieDown, Cond.selects RX0 yX0_lieDown yX0_lieDown, Cond.code yX0_lieDown cX0_lieDown 1 none]
def wsX5_hours_r5 : List Cond := [Cond.fieldLink RX0 22 "CoalHulks$Gang" "rest" "I", Cond.fieldLink RX0 25 "CoalHulks$Gang" "hoursCounted" "I", Cond.methodLink RX5 221 yX5_goOutward, Cond.static yX5_goOutward, Cond.code yX5_goOutward cX5_goOutward 1 none, Cond.methodLink RX5 224 yX5_workAtSteamer, Cond.instanceMethod yX5_workAtSteamer, Cond.selects RX5 yX5_workAtSteamer yX5_workAtSteamer, Cond.code yX5_workAtSteamer cX5_workAtSteamer 3 none, Cond.fieldLink RX5 252 "CoalHulks$Order" "target" "LCoalHulks$Steamer;", Cond.methodLink RX5 256 yX5_shovelIntoSteamer, Cond.instanceMethod yX5_shovelIntoSteamer, Cond.selects RX5 yX5_shovelIntoSteamer yX5_shovelIntoSteamer, Cond.code yX5_shovelIntoSteamer cX5_shovelIntoSteamer 7 none, Cond.fieldLink RX5 167 "CoalHulks$Steamer" "want" "I", Cond.fieldLink RX5 176 "CoalHulks" "coalDelivered" "I", Cond.methodLink RX5 227 yX5_comeHome, Cond.static yX5_comeHome, Cond.code yX5_comeHome cX5_comeHome 2 none, Cond.methodLink RX5 208 yX5_letSteamersLeave, Cond.instanceMethod yX5_letSteamersLeave, Cond.selects RX5 yX5_letSteamersLeave yX5_letSteamersLeave, Cond.code yX5_letSteamersLeave cX5_letSteamersLeave 4 (some .int), Cond.fieldLink RX5 259 "CoalHulks$Steamer" "patience" "I"]
def wsX5_hours_r6 : List Cond := [Cond.methodLink RX5 262 yX5_recallLighters, Cond.instanceMethod yX5_recallLighters, Cond.selects RX5 yX5_recallLighters yX5_recallLighters, Cond.code yX5_recallLighters cX5_recallLighters 5 none, Cond.methodLink RX5 269 yX5_recall, Cond.static yX5_recall, Cond.code yX5_recall cX5_recall 2 none, Cond.methodLink RX5 266 yX5_forgetTheLeft, Cond.instanceMethod yX5_forgetTheLeft, Cond.selects RX5 yX5_forgetTheLeft yX5_forgetTheLeft, Cond.code yX5_forgetTheLeft cX5_forgetTheLeft 2 none, Cond.methodLink RX5 106 yX4_hasLeft, Cond.instanceMethod yX4_hasLeft, Cond.selects RX4 yX4_hasLeft yX4_hasLeft, Cond.initialized RX4, Cond.code yX4_hasLeft cX4_hasLeft 1 (some .boolean), Cond.fieldLink RX4 21 "CoalHulks$Steamer" "fate" "I", Cond.methodLink RX5 272 yJx4a65c_remove_915e3, Cond.instanceMethod yJx4a65c_remove_915e3, Cond.selects RJx4a65c yJx4a65c_remove_915e3 yJx4a65c_remove_915e3, Cond.code yJx4a65c_remove_915e3 cJx4a65c_remove_915e3 4 (some (.object "java/lang/Object")), Cond.methodLink RJx4a65c 144 yJx4a65c_fastRemove_b59b0, Cond.instanceMethod yJx4a65c_fastRemove_b59b0, Cond.selects RJx4a65c yJx4a65c_fastRemove_b59b0 yJx4a65c_fastRemove_b59b0]
def wsX5_hours_r7 : List Cond := [Cond.code yJx4a65c_fastRemove_b59b0 cJx4a65c_fastRemove_b59b0 4 none, Cond.fieldLink RJx4a65c 63 "java/util/ArrayList" "modCount" "I", Cond.sameField "java/util/ArrayList" "java/util/AbstractList" "modCount" "I", Cond.methodLink RJx4a65c 112 arraycopyName, Cond.native arraycopyName, Cond.static arraycopyName, Cond.initialized "java/lang/System"]
def wsX5_hours : List Cond := .code yX5_hours cX5_hours 4 (some .int) :: ((wsX5_hours_r1 ++ (wsX5_hours_r2 ++ (wsX5_hours_r3 ++ (wsX5_hours_r4 ++ (wsX5_hours_r5 ++ (wsX5_hours_r6 ++ wsX5_hours_r7)))))) ++ wsX50 ++ wsX00 ++ wsJx4a65c0 ++ wsX40 ++ wsX20 ++ wsX30 ++ wsX10 ++ (vx_atS RX5 174 "java/lang/IllegalArgumentException" ["java/lang/RuntimeException", "java/lang/Exception"]).filter goodWord)
def wsX5_clock : List Cond := .code yX5_clock cX5_clock 1 (some .int) :: ([.fieldLink RX5 145 "CoalHulks" "hoursGone" "I"] ++ wsX50)
def wsX5_coalIn_r1 : List Cond := [Cond.fieldLink RX5 136 "CoalHulks$Hulk" "coal" "I", Cond.methodLink RX5 124 yX5_findHulk, Cond.instanceMethod yX5_findHulk, Cond.selects RX5 yX5_findHulk yX5_findHulk, Cond.initialized RX5, Cond.code yX5_findHulk cX5_findHulk 2 (some (.object "CoalHulks$Hulk")), Cond.classLink RX5 188 "java/lang/IndexOutOfBoundsException", Cond.initialized "java/lang/IndexOutOfBoundsException", Cond.fieldLink RX5 10 "CoalHulks" "hulks" "Ljava/util/ArrayList;", Cond.classLink RX5 43 "CoalHulks$Hulk", Cond.methodLink RX5 32 yJx4a65c_size_8abf5, Cond.instanceMethod yJx4a65c_size_8abf5, Cond.selects RJx4a65c yJx4a65c_size_8abf5 yJx4a65c_size_8abf5, Cond.initialized RJx4a65c, Cond.code yJx4a65c_size_8abf5 cJx4a65c_size_8abf5 1 (some .int), Cond.fieldLink RJx4a65c 48 "java/util/ArrayList" "size" "I", Cond.methodLink RX5 62 yJx4a65c_get_915e3, Cond.instanceMethod yJx4a65c_get_915e3, Cond.selects RJx4a65c yJx4a65c_get_915e3 yJx4a65c_get_915e3, Cond.code yJx4a65c_get_915e3 cJx4a65c_get_915e3 2 (some (.object "java/lang/Object")), Cond.methodLink RJx4a65c 118 yJ15_checkIndex_7cf53, Cond.static yJ15_checkIndex_7cf53, Cond.initialized RJ15, Cond.code yJ15_checkIndex_7cf53 cJ15_checkIndex_7cf53 2 (some .int)]
def wsX5_coalIn_r2 : List Cond := [Cond.methodLink RJ15 105 yJ3_checkIndex_8e157, Cond.static yJ3_checkIndex_8e157, Cond.initialized RJ3, Cond.code yJ3_checkIndex_8e157 cJ3_checkIndex_8e157 3 (some .int), Cond.methodLink RJx4a65c 123 yJx4a65c_elementData_915e3, Cond.instanceMethod yJx4a65c_elementData_915e3, Cond.selects RJx4a65c yJx4a65c_elementData_915e3 yJx4a65c_elementData_915e3, Cond.code yJx4a65c_elementData_915e3 cJx4a65c_elementData_915e3 2 (some (.object "java/lang/Object")), Cond.fieldLink RJx4a65c 9 "java/util/ArrayList" "elementData" "[Ljava/lang/Object;"]
def wsX5_coalIn : List Cond := .code yX5_coalIn cX5_coalIn 2 (some .int) :: ((wsX5_coalIn_r1 ++ wsX5_coalIn_r2) ++ wsX10 ++ wsX50 ++ wsJx4a65c0 ++ (vx_atS RX5 192 "java/lang/IndexOutOfBoundsException" ["java/lang/RuntimeException", "java/lang/Exception"]).filter goodWord)
def wsX5_placeOf_r1 : List Cond := [Cond.fieldLink RX5 148 "CoalHulks$Lighter" "place" "I", Cond.methodLink RX5 86 yX5_findLighter, Cond.instanceMethod yX5_findLighter, Cond.selects RX5 yX5_findLighter yX5_findLighter, Cond.initialized RX5, Cond.code yX5_findLighter cX5_findLighter 2 (some (.object "CoalHulks$Lighter")), Cond.classLink RX5 188 "java/lang/IndexOutOfBoundsException", Cond.initialized "java/lang/IndexOutOfBoundsException", Cond.fieldLink RX5 16 "CoalHulks" "lighters" "Ljava/util/ArrayList;", Cond.classLink RX5 60 "CoalHulks$Lighter", Cond.methodLink RX5 32 yJx4a65c_size_8abf5, Cond.instanceMethod yJx4a65c_size_8abf5, Cond.selects RJx4a65c yJx4a65c_size_8abf5 yJx4a65c_size_8abf5, Cond.initialized RJx4a65c, Cond.code yJx4a65c_size_8abf5 cJx4a65c_size_8abf5 1 (some .int), Cond.fieldLink RJx4a65c 48 "java/util/ArrayList" "size" "I", Cond.methodLink RX5 62 yJx4a65c_get_915e3, Cond.instanceMethod yJx4a65c_get_915e3, Cond.selects RJx4a65c yJx4a65c_get_915e3 yJx4a65c_get_915e3, Cond.code yJx4a65c_get_915e3 cJx4a65c_get_915e3 2 (some (.object "java/lang/Object")), Cond.methodLink RJx4a65c 118 yJ15_checkIndex_7cf53, Cond.static yJ15_checkIndex_7cf53, Cond.initialized RJ15, Cond.code yJ15_checkIndex_7cf53 cJ15_checkIndex_7cf53 2 (some .int)]
def wsX5_placeOf_r2 : List Cond := [Cond.methodLink RJ15 105 yJ3_checkIndex_8e157, Cond.static yJ3_checkIndex_8e157, Cond.initialized RJ3, Cond.code yJ3_checkIndex_8e157 cJ3_checkIndex_8e157 3 (some .int), Cond.methodLink RJx4a65c 123 yJx4a65c_elementData_915e3, Cond.instanceMethod yJx4a65c_elementData_915e3, Cond.selects RJx4a65c yJx4a65c_elementData_915e3 yJx4a65c_elementData_915e3, Cond.code yJx4a65c_elementData_915e3 cJx4a65c_elementData_915e3 2 (some (.object "java/lang/Object")), Cond.fieldLink RJx4a65c 9 "java/util/ArrayList" "elementData" "[Ljava/lang/Object;"]
def wsX5_placeOf : List Cond := .code yX5_placeOf cX5_placeOf 2 (some .int) :: ((wsX5_placeOf_r1 ++ wsX5_placeOf_r2) ++ wsX20 ++ wsX50 ++ wsJx4a65c0 ++ (vx_atS RX5 192 "java/lang/IndexOutOfBoundsException" ["java/lang/RuntimeException", "java/lang/Exception"]).filter goodWord)
def wsX5_loadOf_r1 : List Cond := [Cond.fieldLink RX5 151 "CoalHulks$Lighter" "load" "I", Cond.methodLink RX5 86 yX5_findLighter, Cond.instanceMethod yX5_findLighter, Cond.selects RX5 yX5_findLighter yX5_findLighter, Cond.initialized RX5, Cond.code yX5_findLighter cX5_findLighter 2 (some (.object "CoalHulks$Lighter")), Cond.classLink RX5 188 "java/lang/IndexOutOfBoundsException", Cond.initialized "java/lang/IndexOutOfBoundsException", Cond.fieldLink RX5 16 "CoalHulks" "lighters" "Ljava/util/ArrayList;", Cond.classLink RX5 60 "CoalHulks$Lighter", Cond.methodLink RX5 32 yJx4a65c_size_8abf5, Cond.instanceMethod yJx4a65c_size_8abf5, Cond.selects RJx4a65c yJx4a65c_size_8abf5 yJx4a65c_size_8abf5, Cond.initialized RJx4a65c, Cond.code yJx4a65c_size_8abf5 cJx4a65c_size_8abf5 1 (some .int), Cond.fieldLink RJx4a65c 48 "java/util/ArrayList" "size" "I", Cond.methodLink RX5 62 yJx4a65c_get_915e3, Cond.instanceMethod yJx4a65c_get_915e3, Cond.selects RJx4a65c yJx4a65c_get_915e3 yJx4a65c_get_915e3, Cond.code yJx4a65c_get_915e3 cJx4a65c_get_915e3 2 (some (.object "java/lang/Object")), Cond.methodLink RJx4a65c 118 yJ15_checkIndex_7cf53, Cond.static yJ15_checkIndex_7cf53, Cond.initialized RJ15, Cond.code yJ15_checkIndex_7cf53 cJ15_checkIndex_7cf53 2 (some .int)]
def wsX5_loadOf_r2 : List Cond := [Cond.methodLink RJ15 105 yJ3_checkIndex_8e157, Cond.static yJ3_checkIndex_8e157, Cond.initialized RJ3, Cond.code yJ3_checkIndex_8e157 cJ3_checkIndex_8e157 3 (some .int), Cond.methodLink RJx4a65c 123 yJx4a65c_elementData_915e3, Cond.instanceMethod yJx4a65c_elementData_915e3, Cond.selects RJx4a65c yJx4a65c_elementData_915e3 yJx4a65c_elementData_915e3, Cond.code yJx4a65c_elementData_915e3 cJx4a65c_elementData_915e3 2 (some (.object "java/lang/Object")), Cond.fieldLink RJx4a65c 9 "java/util/ArrayList" "elementData" "[Ljava/lang/Object;"]
def wsX5_loadOf : List Cond := .code yX5_loadOf cX5_loadOf 2 (some .int) :: ((wsX5_loadOf_r1 ++ wsX5_loadOf_r2) ++ wsX20 ++ wsX50 ++ wsJx4a65c0 ++ (vx_atS RX5 192 "java/lang/IndexOutOfBoundsException" ["java/lang/RuntimeException", "java/lang/Exception"]).filter goodWord)
def wsX5_dustIn_r1 : List Cond := [Cond.fieldLink RX5 132 "CoalHulks$Lighter" "dust" "I", Cond.methodLink RX5 86 yX5_findLighter, Cond.instanceMethod yX5_findLighter, Cond.selects RX5 yX5_findLighter yX5_findLighter, Cond.initialized RX5, Cond.code yX5_findLighter cX5_findLighter 2 (some (.object "CoalHulks$Lighter")), Cond.classLink RX5 188 "java/lang/IndexOutOfBoundsException", Cond.initialized "java/lang/IndexOutOfBoundsException", Cond.fieldLink RX5 16 "CoalHulks" "lighters" "Ljava/util/ArrayList;", Cond.classLink RX5 60 "CoalHulks$Lighter", Cond.methodLink RX5 32 yJx4a65c_size_8abf5, Cond.instanceMethod yJx4a65c_size_8abf5, Cond.selects RJx4a65c yJx4a65c_size_8abf5 yJx4a65c_size_8abf5, Cond.initialized RJx4a65c, Cond.code yJx4a65c_size_8abf5 cJx4a65c_size_8abf5 1 (some .int), Cond.fieldLink RJx4a65c 48 "java/util/ArrayList" "size" "I", Cond.methodLink RX5 62 yJx4a65c_get_915e3, Cond.instanceMethod yJx4a65c_get_915e3, Cond.selects RJx4a65c yJx4a65c_get_915e3 yJx4a65c_get_915e3, Cond.code yJx4a65c_get_915e3 cJx4a65c_get_915e3 2 (some (.object "java/lang/Object")), Cond.methodLink RJx4a65c 118 yJ15_checkIndex_7cf53, Cond.static yJ15_checkIndex_7cf53, Cond.initialized RJ15, Cond.code yJ15_checkIndex_7cf53 cJ15_checkIndex_7cf53 2 (some .int)]
def wsX5_dustIn_r2 : List Cond := [Cond.methodLink RJ15 105 yJ3_checkIndex_8e157, Cond.static yJ3_checkIndex_8e157, Cond.initialized RJ3, Cond.code yJ3_checkIndex_8e157 cJ3_checkIndex_8e157 3 (some .int), Cond.methodLink RJx4a65c 123 yJx4a65c_elementData_915e3, Cond.instanceMethod yJx4a65c_elementData_915e3, Cond.selects RJx4a65c yJx4a65c_elementData_915e3 yJx4a65c_elementData_915e3, Cond.code yJx4a65c_elementData_915e3 cJx4a65c_elementData_915e3 2 (some (.object "java/lang/Object")), Cond.fieldLink RJx4a65c 9 "java/util/ArrayList" "elementData" "[Ljava/lang/Object;"]
def wsX5_dustIn : List Cond := .code yX5_dustIn cX5_dustIn 2 (some .int) :: ((wsX5_dustIn_r1 ++ wsX5_dustIn_r2) ++ wsX20 ++ wsX50 ++ wsJx4a65c0 ++ (vx_atS RX5 192 "java/lang/IndexOutOfBoundsException" ["java/lang/RuntimeException", "java/lang/Exception"]).filter goodWord)
def wsX5_gangOn_r1 : List Cond := [Cond.fieldLink RX5 116 "CoalHulks$Lighter" "task" "LCoalHulks$Order;", Cond.fieldLink RX5 154 "CoalHulks$Order" "shovellers" "LCoalHulks$Gang;", Cond.fieldLink RX5 158 "CoalHulks$Gang" "number" "I", Cond.methodLink RX5 86 yX5_findLighter, Cond.instanceMethod yX5_findLighter, Cond.selects RX5 yX5_findLighter yX5_findLighter, Cond.initialized RX5, Cond.code yX5_findLighter cX5_findLighter 2 (some (.object "CoalHulks$Lighter")), Cond.classLink RX5 188 "java/lang/IndexOutOfBoundsException", Cond.initialized "java/lang/IndexOutOfBoundsException", Cond.fieldLink RX5 16 "CoalHulks" "lighters" "Ljava/util/ArrayList;", Cond.classLink RX5 60 "CoalHulks$Lighter", Cond.methodLink RX5 32 yJx4a65c_size_8abf5, Cond.instanceMethod yJx4a65c_size_8abf5, Cond.selects RJx4a65c yJx4a65c_size_8abf5 yJx4a65c_size_8abf5, Cond.initialized RJx4a65c, Cond.code yJx4a65c_size_8abf5 cJx4a65c_size_8abf5 1 (some .int), Cond.fieldLink RJx4a65c 48 "java/util/ArrayList" "size" "I", Cond.methodLink RX5 62 yJx4a65c_get_915e3, Cond.instanceMethod yJx4a65c_get_915e3, Cond.selects RJx4a65c yJx4a65c_get_915e3 yJx4a65c_get_915e3, Cond.code yJx4a65c_get_915e3 cJx4a65c_get_915e3 2 (some (.object "java/lang/Object")), Cond.methodLink RJx4a65c 118 yJ15_checkIndex_7cf53, Cond.static yJ15_checkIndex_7cf53]
def wsX5_gangOn_r2 : List Cond := [Cond.initialized RJ15, Cond.code yJ15_checkIndex_7cf53 cJ15_checkIndex_7cf53 2 (some .int), Cond.methodLink RJ15 105 yJ3_checkIndex_8e157, Cond.static yJ3_checkIndex_8e157, Cond.initialized RJ3, Cond.code yJ3_checkIndex_8e157 cJ3_checkIndex_8e157 3 (some .int), Cond.methodLink RJx4a65c 123 yJx4a65c_elementData_915e3, Cond.instanceMethod yJx4a65c_elementData_915e3, Cond.selects RJx4a65c yJx4a65c_elementData_915e3 yJx4a65c_elementData_915e3, Cond.code yJx4a65c_elementData_915e3 cJx4a65c_elementData_915e3 2 (some (.object "java/lang/Object")), Cond.fieldLink RJx4a65c 9 "java/util/ArrayList" "elementData" "[Ljava/lang/Object;"]
def wsX5_gangOn : List Cond := .code yX5_gangOn cX5_gangOn 3 (some .int) :: ((wsX5_gangOn_r1 ++ wsX5_gangOn_r2) ++ wsX20 ++ wsX30 ++ wsX00 ++ wsX50 ++ wsJx4a65c0 ++ (vx_atS RX5 192 "java/lang/IndexOutOfBoundsException" ["java/lang/RuntimeException", "java/lang/Exception"]).filter goodWord)
def wsX5_restOf_r1 : List Cond := [Cond.fieldLink RX5 161 "CoalHulks$Gang" "rest" "I", Cond.methodLink RX5 90 yX5_findGang, Cond.instanceMethod yX5_findGang, Cond.selects RX5 yX5_findGang yX5_findGang, Cond.initialized RX5, Cond.code yX5_findGang cX5_findGang 2 (some (.object "CoalHulks$Gang")), Cond.classLink RX5 188 "java/lang/IndexOutOfBoundsException", Cond.initialized "java/lang/IndexOutOfBoundsException", Cond.fieldLink RX5 19 "CoalHulks" "gangs" "Ljava/util/ArrayList;", Cond.classLink RX5 71 "CoalHulks$Gang", Cond.methodLink RX5 32 yJx4a65c_size_8abf5, Cond.instanceMethod yJx4a65c_size_8abf5, Cond.selects RJx4a65c yJx4a65c_size_8abf5 yJx4a65c_size_8abf5, Cond.initialized RJx4a65c, Cond.code yJx4a65c_size_8abf5 cJx4a65c_size_8abf5 1 (some .int), Cond.fieldLink RJx4a65c 48 "java/util/ArrayList" "size" "I", Cond.methodLink RX5 62 yJx4a65c_get_915e3, Cond.instanceMethod yJx4a65c_get_915e3, Cond.selects RJx4a65c yJx4a65c_get_915e3 yJx4a65c_get_915e3, Cond.code yJx4a65c_get_915e3 cJx4a65c_get_915e3 2 (some (.object "java/lang/Object")), Cond.methodLink RJx4a65c 118 yJ15_checkIndex_7cf53, Cond.static yJ15_checkIndex_7cf53, Cond.initialized RJ15, Cond.code yJ15_checkIndex_7cf53 cJ15_checkIndex_7cf53 2 (some .int)]
def wsX5_restOf_r2 : List Cond := [Cond.methodLink RJ15 105 yJ3_checkIndex_8e157, Cond.static yJ3_checkIndex_8e157, Cond.initialized RJ3, Cond.code yJ3_checkIndex_8e157 cJ3_checkIndex_8e157 3 (some .int), Cond.methodLink RJx4a65c 123 yJx4a65c_elementData_915e3, Cond.instanceMethod yJx4a65c_elementData_915e3, Cond.selects RJx4a65c yJx4a65c_elementData_915e3 yJx4a65c_elementData_915e3, Cond.code yJx4a65c_elementData_915e3 cJx4a65c_elementData_915e3 2 (some (.object "java/lang/Object")), Cond.fieldLink RJx4a65c 9 "java/util/ArrayList" "elementData" "[Ljava/lang/Object;"]
def wsX5_restOf : List Cond := .code yX5_restOf cX5_restOf 2 (some .int) :: ((wsX5_restOf_r1 ++ wsX5_restOf_r2) ++ wsX00 ++ wsX50 ++ wsJx4a65c0 ++ (vx_atS RX5 192 "java/lang/IndexOutOfBoundsException" ["java/lang/RuntimeException", "java/lang/Exception"]).filter goodWord)
def wsX5_fateOf_r1 : List Cond := [Cond.fieldLink RX5 164 "CoalHulks$Steamer" "fate" "I", Cond.methodLink RX5 94 yX5_findSteamer, Cond.instanceMethod yX5_findSteamer, Cond.selects RX5 yX5_findSteamer yX5_findSteamer, Cond.initialized RX5, Cond.code yX5_findSteamer cX5_findSteamer 2 (some (.object "CoalHulks$Steamer")), Cond.classLink RX5 188 "java/lang/IndexOutOfBoundsException", Cond.initialized "java/lang/IndexOutOfBoundsException", Cond.fieldLink RX5 22 "CoalHulks" "steamers" "Ljava/util/ArrayList;", Cond.classLink RX5 82 "CoalHulks$Steamer", Cond.methodLink RX5 32 yJx4a65c_size_8abf5, Cond.instanceMethod yJx4a65c_size_8abf5, Cond.selects RJx4a65c yJx4a65c_size_8abf5 yJx4a65c_size_8abf5, Cond.initialized RJx4a65c, Cond.code yJx4a65c_size_8abf5 cJx4a65c_size_8abf5 1 (some .int), Cond.fieldLink RJx4a65c 48 "java/util/ArrayList" "size" "I", Cond.methodLink RX5 62 yJx4a65c_get_915e3, Cond.instanceMethod yJx4a65c_get_915e3, Cond.selects RJx4a65c yJx4a65c_get_915e3 yJx4a65c_get_915e3, Cond.code yJx4a65c_get_915e3 cJx4a65c_get_915e3 2 (some (.object "java/lang/Object")), Cond.methodLink RJx4a65c 118 yJ15_checkIndex_7cf53, Cond.static yJ15_checkIndex_7cf53, Cond.initialized RJ15, Cond.code yJ15_checkIndex_7cf53 cJ15_checkIndex_7cf53 2 (some .int)]
def wsX5_fateOf_r2 : List Cond := [Cond.methodLink RJ15 105 yJ3_checkIndex_8e157, Cond.static yJ3_checkIndex_8e157, Cond.initialized RJ3, Cond.code yJ3_checkIndex_8e157 cJ3_checkIndex_8e157 3 (some .int), Cond.methodLink RJx4a65c 123 yJx4a65c_elementData_915e3, Cond.instanceMethod yJx4a65c_elementData_915e3, Cond.selects RJx4a65c yJx4a65c_elementData_915e3 yJx4a65c_elementData_915e3, Cond.code yJx4a65c_elementData_915e3 cJx4a65c_elementData_915e3 2 (some (.object "java/lang/Object")), Cond.fieldLink RJx4a65c 9 "java/util/ArrayList" "elementData" "[Ljava/lang/Object;"]
def wsX5_fateOf : List Cond := .code yX5_fateOf cX5_fateOf 2 (some .int) :: ((wsX5_fateOf_r1 ++ wsX5_fateOf_r2) ++ wsX40 ++ wsX50 ++ wsJx4a65c0 ++ (vx_atS RX5 192 "java/lang/IndexOutOfBoundsException" ["java/lang/RuntimeException", "java/lang/Exception"]).filter goodWord)
def wsX5_wantOf_r1 : List Cond := [Cond.fieldLink RX5 167 "CoalHulks$Steamer" "want" "I", Cond.methodLink RX5 94 yX5_findSteamer, Cond.instanceMethod yX5_findSteamer, Cond.selects RX5 yX5_findSteamer yX5_findSteamer, Cond.initialized RX5, Cond.code yX5_findSteamer cX5_findSteamer 2 (some (.object "CoalHulks$Steamer")), Cond.classLink RX5 188 "java/lang/IndexOutOfBoundsException", Cond.initialized "java/lang/IndexOutOfBoundsException", Cond.fieldLink RX5 22 "CoalHulks" "steamers" "Ljava/util/ArrayList;", Cond.classLink RX5 82 "CoalHulks$Steamer", Cond.methodLink RX5 32 yJx4a65c_size_8abf5, Cond.instanceMethod yJx4a65c_size_8abf5, Cond.selects RJx4a65c yJx4a65c_size_8abf5 yJx4a65c_size_8abf5, Cond.initialized RJx4a65c, Cond.code yJx4a65c_size_8abf5 cJx4a65c_size_8abf5 1 (some .int), Cond.fieldLink RJx4a65c 48 "java/util/ArrayList" "size" "I", Cond.methodLink RX5 62 yJx4a65c_get_915e3, Cond.instanceMethod yJx4a65c_get_915e3, Cond.selects RJx4a65c yJx4a65c_get_915e3 yJx4a65c_get_915e3, Cond.code yJx4a65c_get_915e3 cJx4a65c_get_915e3 2 (some (.object "java/lang/Object")), Cond.methodLink RJx4a65c 118 yJ15_checkIndex_7cf53, Cond.static yJ15_checkIndex_7cf53, Cond.initialized RJ15, Cond.code yJ15_checkIndex_7cf53 cJ15_checkIndex_7cf53 2 (some .int)]
def wsX5_wantOf_r2 : List Cond := [Cond.methodLink RJ15 105 yJ3_checkIndex_8e157, Cond.static yJ3_checkIndex_8e157, Cond.initialized RJ3, Cond.code yJ3_checkIndex_8e157 cJ3_checkIndex_8e157 3 (some .int), Cond.methodLink RJx4a65c 123 yJx4a65c_elementData_915e3, Cond.instanceMethod yJx4a65c_elementData_915e3, Cond.selects RJx4a65c yJx4a65c_elementData_915e3 yJx4a65c_elementData_915e3, Cond.code yJx4a65c_elementData_915e3 cJx4a65c_elementData_915e3 2 (some (.object "java/lang/Object")), Cond.fieldLink RJx4a65c 9 "java/util/ArrayList" "elementData" "[Ljava/lang/Object;"]
def wsX5_wantOf : List Cond := .code yX5_wantOf cX5_wantOf 2 (some .int) :: ((wsX5_wantOf_r1 ++ wsX5_wantOf_r2) ++ wsX40 ++ wsX50 ++ wsJx4a65c0 ++ (vx_atS RX5 192 "java/lang/IndexOutOfBoundsException" ["java/lang/RuntimeException", "java/lang/Exception"]).filter goodWord)
def wsX5_outside_r1 : List Cond := [Cond.classLink RX5 170 "java/lang/IllegalArgumentException", Cond.initialized "java/lang/IllegalArgumentException", Cond.fieldLink RX5 25 "CoalHulks" "present" "Ljava/util/ArrayList;", Cond.classLink RX5 82 "CoalHulks$Steamer", Cond.fieldLink RX5 164 "CoalHulks$Steamer" "fate" "I", Cond.fieldLink RX5 175 "CoalHulks$Steamer" "number" "I", Cond.methodLink RX5 32 yJx4a65c_size_8abf5, Cond.instanceMethod yJx4a65c_size_8abf5, Cond.selects RJx4a65c yJx4a65c_size_8abf5 yJx4a65c_size_8abf5, Cond.initialized RJx4a65c, Cond.code yJx4a65c_size_8abf5 cJx4a65c_size_8abf5 1 (some .int), Cond.fieldLink RJx4a65c 48 "java/util/ArrayList" "size" "I", Cond.methodLink RX5 62 yJx4a65c_get_915e3, Cond.instanceMethod yJx4a65c_get_915e3, Cond.selects RJx4a65c yJx4a65c_get_915e3 yJx4a65c_get_915e3, Cond.code yJx4a65c_get_915e3 cJx4a65c_get_915e3 2 (some (.object "java/lang/Object")), Cond.methodLink RJx4a65c 118 yJ15_checkIndex_7cf53, Cond.static yJ15_checkIndex_7cf53, Cond.initialized RJ15, Cond.code yJ15_checkIndex_7cf53 cJ15_checkIndex_7cf53 2 (some .int), Cond.methodLink RJ15 105 yJ3_checkIndex_8e157, Cond.static yJ3_checkIndex_8e157, Cond.initialized RJ3, Cond.code yJ3_checkIndex_8e157 cJ3_checkIndex_8e157 3 (some .int)]
def wsX5_outside_r2 : List Cond := [Cond.methodLink RJx4a65c 123 yJx4a65c_elementData_915e3, Cond.instanceMethod yJx4a65c_elementData_915e3, Cond.selects RJx4a65c yJx4a65c_elementData_915e3 yJx4a65c_elementData_915e3, Cond.code yJx4a65c_elementData_915e3 cJx4a65c_elementData_915e3 2 (some (.object "java/lang/Object")), Cond.fieldLink RJx4a65c 9 "java/util/ArrayList" "elementData" "[Ljava/lang/Object;"]
def wsX5_outside : List Cond := .code yX5_outside cX5_outside 5 (some .int) :: ((wsX5_outside_r1 ++ wsX5_outside_r2) ++ wsX50 ++ wsX40 ++ wsJx4a65c0 ++ (vx_atS RX5 174 "java/lang/IllegalArgumentException" ["java/lang/RuntimeException", "java/lang/Exception"]).filter goodWord)
def wsX5_delivered : List Cond := .code yX5_delivered cX5_delivered 1 (some .int) :: ([.fieldLink RX5 176 "CoalHulks" "coalDelivered" "I"] ++ wsX50)
def wsX6_init : List Cond := .code yX6_init cX6_init 1 none :: ([.methodLink RX6 1 objectInit, .instanceMethod objectInit, .code objectInit ⟨#[0xb1]⟩ 1 none, .arrayClass .int, .fieldLink RX6 7 "CoalHulksModel" "coal" "[I", .fieldLink RX6 13 "CoalHulksModel" "hold" "[I", .fieldLink RX6 16 "CoalHulksModel" "load" "[I", .fieldLink RX6 19 "CoalHulksModel" "dust" "[I", .fieldLink RX6 22 "CoalHulksModel" "place" "[I", .fieldLink RX6 25 "CoalHulksModel" "home" "[I", .fieldLink RX6 28 "CoalHulksModel" "crew" "[I", .fieldLink RX6 31 "CoalHulksModel" "bound" "[I", .fieldLink RX6 34 "CoalHulksModel" "way" "[I", .fieldLink RX6 37 "CoalHulksModel" "men" "[I", .fieldLink RX6 40 "CoalHulksModel" "counts" "[I", .fieldLink RX6 43 "CoalHulksModel" "rest" "[I", .fieldLink RX6 46 "CoalHulksModel" "want" "[I", .fieldLink RX6 49 "CoalHulksModel" "last" "[I", .fieldLink RX6 52 "CoalHulksModel" "fate" "[I"] ++ wsX60)
def wsX6_thrown : List Cond := .code yX6_thrown cX6_thrown 1 (some .int) :: ([.fieldLink RX6 55 "CoalHulksModel" "thrown" "I"] ++ wsX60)
def wsX6_is : List Cond := .code yX6_is cX6_is 2 (some .boolean) :: ([])
def wsX6_least : List Cond := .code yX6_least cX6_least 2 (some .int) :: ([])
def wsX6_many : List Cond := .code yX6_many cX6_many 4 (some .int) :: ([.fieldLink RX6 59 "CoalHulksModel" "steamers" "I", .fieldLink RX6 52 "CoalHulksModel" "fate" "[I"] ++ wsX60)
def wsX6_hulk : List Cond := .code yX6_hulk cX6_hulk 2 (some .int) :: ([.fieldLink RX6 62 "CoalHulksModel" "hulks" "I", .fieldLink RX6 55 "CoalHulksModel" "thrown" "I", .fieldLink RX6 7 "CoalHulksModel" "coal" "[I"] ++ wsX60)
def wsX6_lighter : List Cond := .code yX6_lighter cX6_lighter 2 (some .int) :: ([.fieldLink RX6 65 "CoalHulksModel" "lighters" "I", .fieldLink RX6 62 "CoalHulksModel" "hulks" "I", .fieldLink RX6 55 "CoalHulksModel" "thrown" "I", .fieldLink RX6 13 "CoalHulksModel" "hold" "[I", .fieldLink RX6 28 "CoalHulksModel" "crew" "[I"] ++ wsX60)
def wsX6_gang : List Cond := .code yX6_gang cX6_gang 2 (some .int) :: ([.fieldLink RX6 68 "CoalHulksModel" "gangs" "I", .fieldLink RX6 55 "CoalHulksModel" "thrown" "I", .fieldLink RX6 37 "CoalHulksModel" "men" "[I"] ++ wsX60)
def wsX6_steamer : List Cond := .code yX6_steamer cX6_steamer 3 (some .int) :: ([.fieldLink RX6 55 "CoalHulksModel" "thrown" "I", .fieldLink RX6 46 "CoalHulksModel" "want" "[I", .fieldLink RX6 59 "CoalHulksModel" "steamers" "I", .fieldLink RX6 49 "CoalHulksModel" "last" "[I", .fieldLink RX6 75 "CoalHulksModel" "clock" "I", .methodLink RX6 71 yX6_many, .instanceMethod yX6_many, .selects RX6 yX6_many yX6_many, .initialized RX6, .code yX6_many cX6_many 4 (some .int), .fieldLink RX6 52 "CoalHulksModel" "fate" "[I"] ++ wsX60)
def wsX6_isBusy : List Cond := .code yX6_isBusy cX6_isBusy 4 (some .boolean) :: ([.fieldLink RX6 43 "CoalHulksModel" "rest" "[I", .fieldLink RX6 65 "CoalHulksModel" "lighters" "I", .fieldLink RX6 28 "CoalHulksModel" "crew" "[I"] ++ wsX60)
def wsX6_order : List Cond := .code yX6_order cX6_order 4 none :: ([.fieldLink RX6 65 "CoalHulksModel" "lighters" "I", .fieldLink RX6 68 "CoalHulksModel" "gangs" "I", .fieldLink RX6 59 "CoalHulksModel" "steamers" "I", .fieldLink RX6 55 "CoalHulksModel" "thrown" "I", .fieldLink RX6 28 "CoalHulksModel" "crew" "[I", .fieldLink RX6 52 "CoalHulksModel" "fate" "[I", .fieldLink RX6 31 "CoalHulksModel" "bound" "[I", .methodLink RX6 78 yX6_is, .static yX6_is, .initialized RX6, .code yX6_is cX6_is 2 (some .boolean), .methodLink RX6 82 yX6_isBusy, .instanceMethod yX6_isBusy, .selects RX6 yX6_isBusy yX6_isBusy, .code yX6_isBusy cX6_isBusy 4 (some .boolean), .fieldLink RX6 43 "CoalHulksModel" "rest" "[I"] ++ wsX60)
def wsX6_shift : List Cond := .code yX6_shift cX6_shift 3 none :: ([.fieldLink RX6 65 "CoalHulksModel" "lighters" "I", .fieldLink RX6 62 "CoalHulksModel" "hulks" "I", .fieldLink RX6 28 "CoalHulksModel" "crew" "[I", .fieldLink RX6 55 "CoalHulksModel" "thrown" "I", .fieldLink RX6 25 "CoalHulksModel" "home" "[I", .methodLink RX6 78 yX6_is, .static yX6_is, .initialized RX6, .code yX6_is cX6_is 2 (some .boolean)] ++ wsX60)
def wsX6_sweep : List Cond := .code yX6_sweep cX6_sweep 4 (some .int) :: ([.fieldLink RX6 65 "CoalHulksModel" "lighters" "I", .fieldLink RX6 68 "CoalHulksModel" "gangs" "I", .fieldLink RX6 55 "CoalHulksModel" "thrown" "I", .fieldLink RX6 28 "CoalHulksModel" "crew" "[I", .fieldLink RX6 19 "CoalHulksModel" "dust" "[I", .fieldLink RX6 7 "CoalHulksModel" "coal" "[I", .fieldLink RX6 25 "CoalHulksModel" "home" "[I", .fieldLink RX6 43 "CoalHulksModel" "rest" "[I", .fieldLink RX6 40 "CoalHulksModel" "counts" "[I", .methodLink RX6 78 yX6_is, .static yX6_is, .initialized RX6, .code yX6_is cX6_is 2 (some .boolean), .methodLink RX6 82 yX6_isBusy, .instanceMethod yX6_isBusy, .selects RX6 yX6_isBusy yX6_isBusy, .code yX6_isBusy cX6_isBusy 4 (some .boolean)] ++ wsX60)
def wsX6_endOrder : List Cond := .code yX6_endOrder cX6_endOrder 3 none :: ([.fieldLink RX6 28 "CoalHulksModel" "crew" "[I", .fieldLink RX6 22 "CoalHulksModel" "place" "[I", .fieldLink RX6 40 "CoalHulksModel" "counts" "[I", .fieldLink RX6 43 "CoalHulksModel" "rest" "[I"] ++ wsX60)
def wsX6_shovels : List Cond := .code yX6_shovels cX6_shovels 4 (some .int) :: ([.fieldLink RX6 37 "CoalHulksModel" "men" "[I", .fieldLink RX6 28 "CoalHulksModel" "crew" "[I", .fieldLink RX6 19 "CoalHulksModel" "dust" "[I", .methodLink RX6 86 yX6_least, .static yX6_least, .initialized RX6, .code yX6_least cX6_least 2 (some .int)] ++ wsX60)
def wsX6_atHulk : List Cond := .code yX6_atHulk cX6_atHulk 5 none :: ([.fieldLink RX6 7 "CoalHulksModel" "coal" "[I", .fieldLink RX6 25 "CoalHulksModel" "home" "[I", .fieldLink RX6 13 "CoalHulksModel" "hold" "[I", .fieldLink RX6 16 "CoalHulksModel" "load" "[I", .fieldLink RX6 19 "CoalHulksModel" "dust" "[I", .fieldLink RX6 22 "CoalHulksModel" "place" "[I", .fieldLink RX6 34 "CoalHulksModel" "way" "[I", .methodLink RX6 86 yX6_least, .static yX6_least, .initialized RX6, .code yX6_least cX6_least 2 (some .int), .methodLink RX6 90 yX6_shovels, .instanceMethod yX6_shovels, .selects RX6 yX6_shovels yX6_shovels, .code yX6_shovels cX6_shovels 4 (some .int), .fieldLink RX6 37 "CoalHulksModel" "men" "[I", .fieldLink RX6 28 "CoalHulksModel" "crew" "[I", .methodLink RX6 93 yX6_endOrder, .instanceMethod yX6_endOrder, .selects RX6 yX6_endOrder yX6_endOrder, .code yX6_endOrder cX6_endOrder 3 none, .fieldLink RX6 40 "CoalHulksModel" "counts" "[I", .fieldLink RX6 43 "CoalHulksModel" "rest" "[I"] ++ wsX60)
def wsX6_turnHome : List Cond := .code yX6_turnHome cX6_turnHome 2 none :: ([.fieldLink RX6 22 "CoalHulksModel" "place" "[I", .fieldLink RX6 34 "CoalHulksModel" "way" "[I"] ++ wsX60)
def wsX6_atSteamer : List Cond := .code yX6_atSteamer cX6_atSteamer 4 none :: ([.fieldLink RX6 31 "CoalHulksModel" "bound" "[I", .fieldLink RX6 16 "CoalHulksModel" "load" "[I", .fieldLink RX6 52 "CoalHulksModel" "fate" "[I", .fieldLink RX6 46 "CoalHulksModel" "want" "[I", .fieldLink RX6 19 "CoalHulksModel" "dust" "[I", .fieldLink RX6 100 "CoalHulksModel" "delivered" "I", .methodLink RX6 97 yX6_turnHome, .instanceMethod yX6_turnHome, .selects RX6 yX6_turnHome yX6_turnHome, .initialized RX6, .code yX6_turnHome cX6_turnHome 2 none, .fieldLink RX6 22 "CoalHulksModel" "place" "[I", .fieldLink RX6 34 "CoalHulksModel" "way" "[I", .methodLink RX6 86 yX6_least, .static yX6_least, .code yX6_least cX6_least 2 (some .int), .methodLink RX6 90 yX6_shovels, .instanceMethod yX6_shovels, .selects RX6 yX6_shovels yX6_shovels, .code yX6_shovels cX6_shovels 4 (some .int), .fieldLink RX6 37 "CoalHulksModel" "men" "[I", .fieldLink RX6 28 "CoalHulksModel" "crew" "[I"] ++ wsX60)
def wsX6_goOn : List Cond := .code yX6_goOn cX6_goOn 2 none :: ([.fieldLink RX6 34 "CoalHulksModel" "way" "[I", .fieldLink RX6 22 "CoalHulksModel" "place" "[I", .methodLink RX6 93 yX6_endOrder, .instanceMethod yX6_endOrder, .selects RX6 yX6_endOrder yX6_endOrder, .initialized RX6, .code yX6_endOrder cX6_endOrder 3 none, .fieldLink RX6 28 "CoalHulksModel" "crew" "[I", .fieldLink RX6 40 "CoalHulksModel" "counts" "[I", .fieldLink RX6 43 "CoalHulksModel" "rest" "[I"] ++ wsX60)
def wsX6_work_r1 : List Cond := [Cond.fieldLink RX6 40 "CoalHulksModel" "counts" "[I", Cond.fieldLink RX6 28 "CoalHulksModel" "crew" "[I", Cond.fieldLink RX6 22 "CoalHulksModel" "place" "[I", Cond.methodLink RX6 103 yX6_atHulk, Cond.instanceMethod yX6_atHulk, Cond.selects RX6 yX6_atHulk yX6_atHulk, Cond.initialized RX6, Cond.code yX6_atHulk cX6_atHulk 5 none, Cond.fieldLink RX6 7 "CoalHulksModel" "coal" "[I", Cond.fieldLink RX6 25 "CoalHulksModel" "home" "[I", Cond.fieldLink RX6 13 "CoalHulksModel" "hold" "[I", Cond.fieldLink RX6 16 "CoalHulksModel" "load" "[I", Cond.fieldLink RX6 19 "CoalHulksModel" "dust" "[I", Cond.fieldLink RX6 34 "CoalHulksModel" "way" "[I", Cond.methodLink RX6 86 yX6_least, Cond.static yX6_least, Cond.code yX6_least cX6_least 2 (some .int), Cond.methodLink RX6 90 yX6_shovels, Cond.instanceMethod yX6_shovels, Cond.selects RX6 yX6_shovels yX6_shovels, Cond.code yX6_shovels cX6_shovels 4 (some .int), Cond.fieldLink RX6 37 "CoalHulksModel" "men" "[I", Cond.methodLink RX6 93 yX6_endOrder, Cond.instanceMethod yX6_endOrder]
def wsX6_work_r2 : List Cond := [Cond.selects RX6 yX6_endOrder yX6_endOrder, Cond.code yX6_endOrder cX6_endOrder 3 none, Cond.fieldLink RX6 43 "CoalHulksModel" "rest" "[I", Cond.methodLink RX6 106 yX6_atSteamer, Cond.instanceMethod yX6_atSteamer, Cond.selects RX6 yX6_atSteamer yX6_atSteamer, Cond.code yX6_atSteamer cX6_atSteamer 4 none, Cond.fieldLink RX6 31 "CoalHulksModel" "bound" "[I", Cond.fieldLink RX6 52 "CoalHulksModel" "fate" "[I", Cond.fieldLink RX6 46 "CoalHulksModel" "want" "[I", Cond.fieldLink RX6 100 "CoalHulksModel" "delivered" "I", Cond.methodLink RX6 97 yX6_turnHome, Cond.instanceMethod yX6_turnHome, Cond.selects RX6 yX6_turnHome yX6_turnHome, Cond.code yX6_turnHome cX6_turnHome 2 none, Cond.methodLink RX6 109 yX6_goOn, Cond.instanceMethod yX6_goOn, Cond.selects RX6 yX6_goOn yX6_goOn, Cond.code yX6_goOn cX6_goOn 2 none]
def wsX6_work : List Cond := .code yX6_work cX6_work 2 none :: ((wsX6_work_r1 ++ wsX6_work_r2) ++ wsX60)
def wsX6_leave : List Cond := .code yX6_leave cX6_leave 3 none :: ([.fieldLink RX6 52 "CoalHulksModel" "fate" "[I", .fieldLink RX6 46 "CoalHulksModel" "want" "[I", .fieldLink RX6 65 "CoalHulksModel" "lighters" "I", .fieldLink RX6 28 "CoalHulksModel" "crew" "[I", .fieldLink RX6 31 "CoalHulksModel" "bound" "[I", .fieldLink RX6 22 "CoalHulksModel" "place" "[I", .methodLink RX6 93 yX6_endOrder, .instanceMethod yX6_endOrder, .selects RX6 yX6_endOrder yX6_endOrder, .initialized RX6, .code yX6_endOrder cX6_endOrder 3 none, .fieldLink RX6 40 "CoalHulksModel" "counts" "[I", .fieldLink RX6 43 "CoalHulksModel" "rest" "[I", .methodLink RX6 97 yX6_turnHome, .instanceMethod yX6_turnHome, .selects RX6 yX6_turnHome yX6_turnHome, .code yX6_turnHome cX6_turnHome 2 none, .fieldLink RX6 34 "CoalHulksModel" "way" "[I"] ++ wsX60)
def wsX6_hourOnce_r1 : List Cond := [Cond.fieldLink RX6 68 "CoalHulksModel" "gangs" "I", Cond.fieldLink RX6 43 "CoalHulksModel" "rest" "[I", Cond.fieldLink RX6 59 "CoalHulksModel" "steamers" "I", Cond.fieldLink RX6 52 "CoalHulksModel" "fate" "[I", Cond.fieldLink RX6 65 "CoalHulksModel" "lighters" "I", Cond.fieldLink RX6 28 "CoalHulksModel" "crew" "[I", Cond.fieldLink RX6 75 "CoalHulksModel" "clock" "I", Cond.fieldLink RX6 46 "CoalHulksModel" "want" "[I", Cond.fieldLink RX6 49 "CoalHulksModel" "last" "[I", Cond.methodLink RX6 71 yX6_many, Cond.instanceMethod yX6_many, Cond.selects RX6 yX6_many yX6_many, Cond.initialized RX6, Cond.code yX6_many cX6_many 4 (some .int), Cond.methodLink RX6 112 yX6_work, Cond.instanceMethod yX6_work, Cond.selects RX6 yX6_work yX6_work, Cond.code yX6_work cX6_work 2 none, Cond.fieldLink RX6 40 "CoalHulksModel" "counts" "[I", Cond.fieldLink RX6 22 "CoalHulksModel" "place" "[I", Cond.methodLink RX6 103 yX6_atHulk, Cond.instanceMethod yX6_atHulk, Cond.selects RX6 yX6_atHulk yX6_atHulk, Cond.code yX6_atHulk cX6_atHulk 5 none]
def wsX6_hourOnce_r2 : List Cond := [Cond.fieldLink RX6 7 "CoalHulksModel" "coal" "[I", Cond.fieldLink RX6 25 "CoalHulksModel" "home" "[I", Cond.fieldLink RX6 13 "CoalHulksModel" "hold" "[I", Cond.fieldLink RX6 16 "CoalHulksModel" "load" "[I", Cond.fieldLink RX6 19 "CoalHulksModel" "dust" "[I", Cond.fieldLink RX6 34 "CoalHulksModel" "way" "[I", Cond.methodLink RX6 86 yX6_least, Cond.static yX6_least, Cond.code yX6_least cX6_least 2 (some .int), Cond.methodLink RX6 90 yX6_shovels, Cond.instanceMethod yX6_shovels, Cond.selects RX6 yX6_shovels yX6_shovels, Cond.code yX6_shovels cX6_shovels 4 (some .int), Cond.fieldLink RX6 37 "CoalHulksModel" "men" "[I", Cond.methodLink RX6 93 yX6_endOrder, Cond.instanceMethod yX6_endOrder, Cond.selects RX6 yX6_endOrder yX6_endOrder, Cond.code yX6_endOrder cX6_endOrder 3 none, Cond.methodLink RX6 106 yX6_atSteamer, Cond.instanceMethod yX6_atSteamer, Cond.selects RX6 yX6_atSteamer yX6_atSteamer, Cond.code yX6_atSteamer cX6_atSteamer 4 none, Cond.fieldLink RX6 31 "CoalHulksModel" "bound" "[I", Cond.fieldLink RX6 100 "CoalHulksModel" "delivered" "I"]
def wsX6_hourOnce_r3 : List Cond := [Cond.methodLink RX6 97 yX6_turnHome, Cond.instanceMethod yX6_turnHome, Cond.selects RX6 yX6_turnHome yX6_turnHome, Cond.code yX6_turnHome cX6_turnHome 2 none, Cond.methodLink RX6 109 yX6_goOn, Cond.instanceMethod yX6_goOn, Cond.selects RX6 yX6_goOn yX6_goOn, Cond.code yX6_goOn cX6_goOn 2 none, Cond.methodLink RX6 115 yX6_leave, Cond.instanceMethod yX6_leave, Cond.selects RX6 yX6_leave yX6_leave, Cond.code yX6_leave cX6_leave 3 none]
def wsX6_hourOnce : List Cond := .code yX6_hourOnce cX6_hourOnce 3 (some .int) :: ((wsX6_hourOnce_r1 ++ (wsX6_hourOnce_r2 ++ wsX6_hourOnce_r3)) ++ wsX60)
def wsX6_hours_r1 : List Cond := [Cond.fieldLink RX6 55 "CoalHulksModel" "thrown" "I", Cond.methodLink RX6 118 yX6_hourOnce, Cond.instanceMethod yX6_hourOnce, Cond.selects RX6 yX6_hourOnce yX6_hourOnce, Cond.initialized RX6, Cond.code yX6_hourOnce cX6_hourOnce 3 (some .int), Cond.fieldLink RX6 68 "CoalHulksModel" "gangs" "I", Cond.fieldLink RX6 43 "CoalHulksModel" "rest" "[I", Cond.fieldLink RX6 59 "CoalHulksModel" "steamers" "I", Cond.fieldLink RX6 52 "CoalHulksModel" "fate" "[I", Cond.fieldLink RX6 65 "CoalHulksModel" "lighters" "I", Cond.fieldLink RX6 28 "CoalHulksModel" "crew" "[I", Cond.fieldLink RX6 75 "CoalHulksModel" "clock" "I", Cond.fieldLink RX6 46 "CoalHulksModel" "want" "[I", Cond.fieldLink RX6 49 "CoalHulksModel" "last" "[I", Cond.methodLink RX6 71 yX6_many, Cond.instanceMethod yX6_many, Cond.selects RX6 yX6_many yX6_many, Cond.code yX6_many cX6_many 4 (some .int), Cond.methodLink RX6 112 yX6_work, Cond.instanceMethod yX6_work, Cond.selects RX6 yX6_work yX6_work, Cond.code yX6_work cX6_work 2 none, Cond.fieldLink RX6 40 "CoalHulksModel" "counts" "[I"]
def wsX6_hours_r2 : List Cond := [Cond.fieldLink RX6 22 "CoalHulksModel" "place" "[I", Cond.methodLink RX6 103 yX6_atHulk, Cond.instanceMethod yX6_atHulk, Cond.selects RX6 yX6_atHulk yX6_atHulk, Cond.code yX6_atHulk cX6_atHulk 5 none, Cond.fieldLink RX6 7 "CoalHulksModel" "coal" "[I", Cond.fieldLink RX6 25 "CoalHulksModel" "home" "[I", Cond.fieldLink RX6 13 "CoalHulksModel" "hold" "[I", Cond.fieldLink RX6 16 "CoalHulksModel" "load" "[I", Cond.fieldLink RX6 19 "CoalHulksModel" "dust" "[I", Cond.fieldLink RX6 34 "CoalHulksModel" "way" "[I", Cond.methodLink RX6 86 yX6_least, Cond.static yX6_least, Cond.code yX6_least cX6_least 2 (some .int), Cond.methodLink RX6 90 yX6_shovels, Cond.instanceMethod yX6_shovels, Cond.selects RX6 yX6_shovels yX6_shovels, Cond.code yX6_shovels cX6_shovels 4 (some .int), Cond.fieldLink RX6 37 "CoalHulksModel" "men" "[I", Cond.methodLink RX6 93 yX6_endOrder, Cond.instanceMethod yX6_endOrder, Cond.selects RX6 yX6_endOrder yX6_endOrder, Cond.code yX6_endOrder cX6_endOrder 3 none, Cond.methodLink RX6 106 yX6_atSteamer]
def wsX6_hours_r3 : List Cond := [Cond.instanceMethod yX6_atSteamer, Cond.selects RX6 yX6_atSteamer yX6_atSteamer, Cond.code yX6_atSteamer cX6_atSteamer 4 none, Cond.fieldLink RX6 31 "CoalHulksModel" "bound" "[I", Cond.fieldLink RX6 100 "CoalHulksModel" "delivered" "I", Cond.methodLink RX6 97 yX6_turnHome, Cond.instanceMethod yX6_turnHome, Cond.selects RX6 yX6_turnHome yX6_turnHome, Cond.code yX6_turnHome cX6_turnHome 2 none, Cond.methodLink RX6 109 yX6_goOn, Cond.instanceMethod yX6_goOn, Cond.selects RX6 yX6_goOn yX6_goOn, Cond.code yX6_goOn cX6_goOn 2 none, Cond.methodLink RX6 115 yX6_leave, Cond.instanceMethod yX6_leave, Cond.selects RX6 yX6_leave yX6_leave, Cond.code yX6_leave cX6_leave 3 none]
def wsX6_hours : List Cond := .code yX6_hours cX6_hours 4 (some .int) :: ((wsX6_hours_r1 ++ (wsX6_hours_r2 ++ wsX6_hours_r3)) ++ wsX60)
def wsX6_told : List Cond := .code yX6_told cX6_told 4 (some .int) :: ([.fieldLink RX6 55 "CoalHulksModel" "thrown" "I", .methodLink RX6 78 yX6_is, .static yX6_is, .initialized RX6, .code yX6_is cX6_is 2 (some .boolean)] ++ wsX60)
def wsX6_clock : List Cond := .code yX6_clock cX6_clock 1 (some .int) :: ([.fieldLink RX6 55 "CoalHulksModel" "thrown" "I", .fieldLink RX6 75 "CoalHulksModel" "clock" "I"] ++ wsX60)
def wsX6_coalIn : List Cond := .code yX6_coalIn cX6_coalIn 2 (some .int) :: ([.fieldLink RX6 7 "CoalHulksModel" "coal" "[I", .fieldLink RX6 62 "CoalHulksModel" "hulks" "I", .methodLink RX6 122 yX6_told, .instanceMethod yX6_told, .selects RX6 yX6_told yX6_told, .initialized RX6, .code yX6_told cX6_told 4 (some .int), .fieldLink RX6 55 "CoalHulksModel" "thrown" "I", .methodLink RX6 78 yX6_is, .static yX6_is, .code yX6_is cX6_is 2 (some .boolean)] ++ wsX60)
def wsX6_placeOf : List Cond := .code yX6_placeOf cX6_placeOf 2 (some .int) :: ([.fieldLink RX6 22 "CoalHulksModel" "place" "[I", .fieldLink RX6 65 "CoalHulksModel" "lighters" "I", .methodLink RX6 122 yX6_told, .instanceMethod yX6_told, .selects RX6 yX6_told yX6_told, .initialized RX6, .code yX6_told cX6_told 4 (some .int), .fieldLink RX6 55 "CoalHulksModel" "thrown" "I", .methodLink RX6 78 yX6_is, .static yX6_is, .code yX6_is cX6_is 2 (some .boolean)] ++ wsX60)
def wsX6_loadOf : List Cond := .code yX6_loadOf cX6_loadOf 2 (some .int) :: ([.fieldLink RX6 16 "CoalHulksModel" "load" "[I", .fieldLink RX6 65 "CoalHulksModel" "lighters" "I", .methodLink RX6 122 yX6_told, .instanceMethod yX6_told, .selects RX6 yX6_told yX6_told, .initialized RX6, .code yX6_told cX6_told 4 (some .int), .fieldLink RX6 55 "CoalHulksModel" "thrown" "I", .methodLink RX6 78 yX6_is, .static yX6_is, .code yX6_is cX6_is 2 (some .boolean)] ++ wsX60)
def wsX6_dustIn : List Cond := .code yX6_dustIn cX6_dustIn 2 (some .int) :: ([.fieldLink RX6 19 "CoalHulksModel" "dust" "[I", .fieldLink RX6 65 "CoalHulksModel" "lighters" "I", .methodLink RX6 122 yX6_told, .instanceMethod yX6_told, .selects RX6 yX6_told yX6_told, .initialized RX6, .code yX6_told cX6_told 4 (some .int), .fieldLink RX6 55 "CoalHulksModel" "thrown" "I", .methodLink RX6 78 yX6_is, .static yX6_is, .code yX6_is cX6_is 2 (some .boolean)] ++ wsX60)
def wsX6_gangOn : List Cond := .code yX6_gangOn cX6_gangOn 2 (some .int) :: ([.fieldLink RX6 28 "CoalHulksModel" "crew" "[I", .fieldLink RX6 65 "CoalHulksModel" "lighters" "I", .methodLink RX6 122 yX6_told, .instanceMethod yX6_told, .selects RX6 yX6_told yX6_told, .initialized RX6, .code yX6_told cX6_told 4 (some .int), .fieldLink RX6 55 "CoalHulksModel" "thrown" "I", .methodLink RX6 78 yX6_is, .static yX6_is, .code yX6_is cX6_is 2 (some .boolean)] ++ wsX60)
def wsX6_restOf : List Cond := .code yX6_restOf cX6_restOf 2 (some .int) :: ([.fieldLink RX6 43 "CoalHulksModel" "rest" "[I", .fieldLink RX6 68 "CoalHulksModel" "gangs" "I", .methodLink RX6 122 yX6_told, .instanceMethod yX6_told, .selects RX6 yX6_told yX6_told, .initialized RX6, .code yX6_told cX6_told 4 (some .int), .fieldLink RX6 55 "CoalHulksModel" "thrown" "I", .methodLink RX6 78 yX6_is, .static yX6_is, .code yX6_is cX6_is 2 (some .boolean)] ++ wsX60)
def wsX6_fateOf : List Cond := .code yX6_fateOf cX6_fateOf 2 (some .int) :: ([.fieldLink RX6 52 "CoalHulksModel" "fate" "[I", .fieldLink RX6 59 "CoalHulksModel" "steamers" "I", .methodLink RX6 122 yX6_told, .instanceMethod yX6_told, .selects RX6 yX6_told yX6_told, .initialized RX6, .code yX6_told cX6_told 4 (some .int), .fieldLink RX6 55 "CoalHulksModel" "thrown" "I", .methodLink RX6 78 yX6_is, .static yX6_is, .code yX6_is cX6_is 2 (some .boolean)] ++ wsX60)
def wsX6_wantOf : List Cond := .code yX6_wantOf cX6_wantOf 2 (some .int) :: ([.fieldLink RX6 46 "CoalHulksModel" "want" "[I", .fieldLink RX6 59 "CoalHulksModel" "steamers" "I", .methodLink RX6 122 yX6_told, .instanceMethod yX6_told, .selects RX6 yX6_told yX6_told, .initialized RX6, .code yX6_told cX6_told 4 (some .int), .fieldLink RX6 55 "CoalHulksModel" "thrown" "I", .methodLink RX6 78 yX6_is, .static yX6_is, .code yX6_is cX6_is 2 (some .boolean)] ++ wsX60)
def wsX6_outside : List Cond := .code yX6_outside cX6_outside 4 (some .int) :: ([.fieldLink RX6 55 "CoalHulksModel" "thrown" "I", .fieldLink RX6 59 "CoalHulksModel" "steamers" "I", .fieldLink RX6 52 "CoalHulksModel" "fate" "[I"] ++ wsX60)
def wsX6_delivered : List Cond := .code yX6_delivered cX6_delivered 1 (some .int) :: ([.fieldLink RX6 55 "CoalHulksModel" "thrown" "I", .fieldLink RX6 100 "CoalHulksModel" "delivered" "I"] ++ wsX60)
def wsJ9_max_7cf53 : List Cond := .code yJ9_max_7cf53 cJ9_max_7cf53 2 (some .int) :: ([])
def wsJ9_min_7cf53 : List Cond := .code yJ9_min_7cf53 cJ9_min_7cf53 2 (some .int) :: ([])
def wsL_hulk_r1 : List Cond := [Cond.classLink RL 13 "java/lang/IllegalArgumentException", Cond.classLink RL 15 "java/lang/IllegalStateException", Cond.methodLink RL 7 yX5_hulk, Cond.instanceMethod yX5_hulk, Cond.selects RX5 yX5_hulk yX5_hulk, Cond.initialized RX5, Cond.code yX5_hulk cX5_hulk 3 (some .int), Cond.classLink RX5 36 "java/lang/IllegalStateException", Cond.initialized "java/lang/IllegalStateException", Cond.fieldLink RX5 10 "CoalHulks" "hulks" "Ljava/util/ArrayList;", Cond.classLink RX5 43 RX1, Cond.instantiable RX1 1, Cond.initialized RX1, Cond.methodLink RX5 28 yX5_refuseOutOfRange, Cond.static yX5_refuseOutOfRange, Cond.code yX5_refuseOutOfRange cX5_refuseOutOfRange 3 none, Cond.classLink RX5 170 "java/lang/IllegalArgumentException", Cond.initialized "java/lang/IllegalArgumentException", Cond.methodLink RX5 32 yJx4a65c_size_8abf5, Cond.instanceMethod yJx4a65c_size_8abf5, Cond.selects RJx4a65c yJx4a65c_size_8abf5 yJx4a65c_size_8abf5, Cond.initialized RJx4a65c, Cond.code yJx4a65c_size_8abf5 cJx4a65c_size_8abf5 1 (some .int), Cond.fieldLink RJx4a65c 48 "java/util/ArrayList" "size" "I"]
def wsL_hulk_r2 : List Cond := [Cond.methodLink RX5 45 yX1_init, Cond.instanceMethod yX1_init, Cond.code yX1_init cX1_init 2 none, Cond.methodLink RX1 1 objectInit, Cond.instanceMethod objectInit, Cond.code objectInit ⟨#[0xb1]⟩ 1 none, Cond.fieldLink RX1 7 "CoalHulks$Hulk" "coal" "I", Cond.methodLink RX5 48 yJx4a65c_add_9ea2d, Cond.instanceMethod yJx4a65c_add_9ea2d, Cond.selects RJx4a65c yJx4a65c_add_9ea2d yJx4a65c_add_9ea2d, Cond.code yJx4a65c_add_9ea2d cJx4a65c_add_9ea2d 2 (some .boolean), Cond.fieldLink RJx4a65c 63 "java/util/ArrayList" "modCount" "I", Cond.sameField "java/util/ArrayList" "java/util/AbstractList" "modCount" "I", Cond.fieldLink RJx4a65c 9 "java/util/ArrayList" "elementData" "[Ljava/lang/Object;", Cond.methodLink RJx4a65c 131 yJx4a65c_add_72be8, Cond.instanceMethod yJx4a65c_add_72be8, Cond.selects RJx4a65c yJx4a65c_add_72be8 yJx4a65c_add_72be8, Cond.code yJx4a65c_add_72be8 cJx4a65c_add_72be8 4 none, Cond.methodLink RJx4a65c 129 yJx4a65c_grow_d5877, Cond.instanceMethod yJx4a65c_grow_d5877, Cond.selects RJx4a65c yJx4a65c_grow_d5877 yJx4a65c_grow_d5877, Cond.code yJx4a65c_grow_d5877 cJx4a65c_grow_d5877 1 (some (.array (.object "java/lang/Object"))), Cond.methodLink RJx4a65c 69 yJx4a65c_grow_92f84, Cond.instanceMethod yJx4a65c_grow_92f84]
def wsL_hulk_r3 : List Cond := [Cond.selects RJx4a65c yJx4a65c_grow_92f84 yJx4a65c_grow_92f84, Cond.code yJx4a65c_grow_92f84 cJx4a65c_grow_92f84 4 (some (.array (.object "java/lang/Object"))), Cond.fieldLink RJx4a65c 39 "java/util/ArrayList" "DEFAULTCAPACITY_EMPTY_ELEMENTDATA" "[Ljava/lang/Object;", Cond.methodLink RJx4a65c 79 Lib.Math.max.name, Cond.static Lib.Math.max.name, Cond.initialized "java/lang/Math", Cond.code Lib.Math.max.name Lib.Math.max.code 2 (some .int), Cond.classLink RJx4a65c 7 "java/lang/Object", Cond.methodLink RJx4a65c 73 yJ8_newLength_cabcc, Cond.static yJ8_newLength_cabcc, Cond.initialized RJ8, Cond.code yJ8_newLength_cabcc cJ8_newLength_cabcc 4 (some .int), Cond.methodLink RJ8 194 Lib.Math.max.name, Cond.constant RJ8 200 (2147483639), Cond.methodLink RJ8 201 yJ8_hugeLength_7cf53, Cond.static yJ8_hugeLength_7cf53, Cond.code yJ8_hugeLength_7cf53 cJ8_hugeLength_7cf53 3 (some .int), Cond.methodLink RJx4a65c 66 yJ7_copyOf_1904c, Cond.static yJ7_copyOf_1904c, Cond.initialized RJ7, Cond.code yJ7_copyOf_1904c cJ7_copyOf_1904c 2 (some (.array (.object "java/lang/Object"))), Cond.methodLink RJ7 86 ⟨"java/lang/Object", "getClass", "()Ljava/lang/Class;"⟩, Cond.selects "[Ljava/lang/Object;" ⟨"java/lang/Object", "getClass", "()Ljava/lang/Class;"⟩ ⟨"java/lang/Object", "getClass", "()Ljava/lang/Class;"⟩, Cond.instanceMethod ⟨"java/lang/Object", "getClass", "()Ljava/lang/Class;"⟩]
def wsL_hulk_r4 : List Cond := [Cond.native ⟨"java/lang/Object", "getClass", "()Ljava/lang/Class;"⟩, Cond.methodLink RJ7 300 yJ7_copyOf_6403c, Cond.static yJ7_copyOf_6403c, Cond.code yJ7_copyOf_6403c cJ7_copyOf_6403c 4 (some (.array (.object "java/lang/Object"))), Cond.classLink RJ7 110 "[Ljava/lang/Object;", Cond.classLink RJ7 2 "java/lang/Object", Cond.methodLink RJ7 304 Lib.Math.min.name, Cond.static Lib.Math.min.name, Cond.code Lib.Math.min.name Lib.Math.min.code 2 (some .int), Cond.methodLink RJ7 150 arraycopyName, Cond.native arraycopyName, Cond.static arraycopyName, Cond.initialized "java/lang/System"]
def wsL_hulk : List Cond := .codeWith yL_hulk cL_hulk 4 (some .int) [(0, 9, 12, 13), (0, 9, 15, 15)] :: ((wsL_hulk_r1 ++ (wsL_hulk_r2 ++ (wsL_hulk_r3 ++ wsL_hulk_r4))) ++ wsX50 ++ wsX10 ++ wsJx4a65c0 ++ (vx_atS RX5 40 "java/lang/IllegalStateException" ["java/lang/RuntimeException", "java/lang/Exception"]).filter goodWord ++ (vx_atS RX5 174 "java/lang/IllegalArgumentException" ["java/lang/RuntimeException", "java/lang/Exception"]).filter goodWord)
def wsL_lighter_r1 : List Cond := [Cond.classLink RL 13 "java/lang/IllegalArgumentException", Cond.classLink RL 15 "java/lang/IllegalStateException", Cond.methodLink RL 17 yX5_lighter, Cond.instanceMethod yX5_lighter, Cond.selects RX5 yX5_lighter yX5_lighter, Cond.initialized RX5, Cond.code yX5_lighter cX5_lighter 3 (some .int), Cond.classLink RX5 36 "java/lang/IllegalStateException", Cond.initialized "java/lang/IllegalStateException", Cond.fieldLink RX5 16 "CoalHulks" "lighters" "Ljava/util/ArrayList;", Cond.fieldLink RX5 10 "CoalHulks" "hulks" "Ljava/util/ArrayList;", Cond.classLink RX5 60 RX2, Cond.instantiable RX2 7, Cond.initialized RX2, Cond.classLink RX5 43 "CoalHulks$Hulk", Cond.methodLink RX5 28 yX5_refuseOutOfRange, Cond.static yX5_refuseOutOfRange, Cond.code yX5_refuseOutOfRange cX5_refuseOutOfRange 3 none, Cond.classLink RX5 170 "java/lang/IllegalArgumentException", Cond.initialized "java/lang/IllegalArgumentException", Cond.methodLink RX5 32 yJx4a65c_size_8abf5, Cond.instanceMethod yJx4a65c_size_8abf5, Cond.selects RJx4a65c yJx4a65c_size_8abf5 yJx4a65c_size_8abf5, Cond.initialized RJx4a65c]
def wsL_lighter_r2 : List Cond := [Cond.code yJx4a65c_size_8abf5 cJx4a65c_size_8abf5 1 (some .int), Cond.fieldLink RJx4a65c 48 "java/util/ArrayList" "size" "I", Cond.methodLink RX5 54 yJx4a65c_isEmpty_aae02, Cond.instanceMethod yJx4a65c_isEmpty_aae02, Cond.selects RJx4a65c yJx4a65c_isEmpty_aae02 yJx4a65c_isEmpty_aae02, Cond.code yJx4a65c_isEmpty_aae02 cJx4a65c_isEmpty_aae02 1 (some .boolean), Cond.methodLink RX5 62 yJx4a65c_get_915e3, Cond.instanceMethod yJx4a65c_get_915e3, Cond.selects RJx4a65c yJx4a65c_get_915e3 yJx4a65c_get_915e3, Cond.code yJx4a65c_get_915e3 cJx4a65c_get_915e3 2 (some (.object "java/lang/Object")), Cond.methodLink RJx4a65c 118 yJ15_checkIndex_7cf53, Cond.static yJ15_checkIndex_7cf53, Cond.initialized RJ15, Cond.code yJ15_checkIndex_7cf53 cJ15_checkIndex_7cf53 2 (some .int), Cond.methodLink RJ15 105 yJ3_checkIndex_8e157, Cond.static yJ3_checkIndex_8e157, Cond.initialized RJ3, Cond.code yJ3_checkIndex_8e157 cJ3_checkIndex_8e157 3 (some .int), Cond.methodLink RJx4a65c 123 yJx4a65c_elementData_915e3, Cond.instanceMethod yJx4a65c_elementData_915e3, Cond.selects RJx4a65c yJx4a65c_elementData_915e3 yJx4a65c_elementData_915e3, Cond.code yJx4a65c_elementData_915e3 cJx4a65c_elementData_915e3 2 (some (.object "java/lang/Object")), Cond.fieldLink RJx4a65c 9 "java/util/ArrayList" "elementData" "[Ljava/lang/Object;", Cond.methodLink RX5 66 yX2_init]
def wsL_lighter_r3 : List Cond := [Cond.instanceMethod yX2_init, Cond.code yX2_init cX2_init 3 none, Cond.methodLink RX2 3 objectInit, Cond.instanceMethod objectInit, Cond.code objectInit ⟨#[0xb1]⟩ 1 none, Cond.fieldLink RX2 9 "CoalHulks$Lighter" "hold" "I", Cond.fieldLink RX2 15 "CoalHulks$Lighter" "home" "LCoalHulks$Hulk;", Cond.fieldLink RX2 19 "CoalHulks$Lighter" "place" "I", Cond.methodLink RX5 48 yJx4a65c_add_9ea2d, Cond.instanceMethod yJx4a65c_add_9ea2d, Cond.selects RJx4a65c yJx4a65c_add_9ea2d yJx4a65c_add_9ea2d, Cond.code yJx4a65c_add_9ea2d cJx4a65c_add_9ea2d 2 (some .boolean), Cond.fieldLink RJx4a65c 63 "java/util/ArrayList" "modCount" "I", Cond.sameField "java/util/ArrayList" "java/util/AbstractList" "modCount" "I", Cond.methodLink RJx4a65c 131 yJx4a65c_add_72be8, Cond.instanceMethod yJx4a65c_add_72be8, Cond.selects RJx4a65c yJx4a65c_add_72be8 yJx4a65c_add_72be8, Cond.code yJx4a65c_add_72be8 cJx4a65c_add_72be8 4 none, Cond.methodLink RJx4a65c 129 yJx4a65c_grow_d5877, Cond.instanceMethod yJx4a65c_grow_d5877, Cond.selects RJx4a65c yJx4a65c_grow_d5877 yJx4a65c_grow_d5877, Cond.code yJx4a65c_grow_d5877 cJx4a65c_grow_d5877 1 (some (.array (.object "java/lang/Object"))), Cond.methodLink RJx4a65c 69 yJx4a65c_grow_92f84, Cond.instanceMethod yJx4a65c_grow_92f84]
def wsL_lighter_r4 : List Cond := [Cond.selects RJx4a65c yJx4a65c_grow_92f84 yJx4a65c_grow_92f84, Cond.code yJx4a65c_grow_92f84 cJx4a65c_grow_92f84 4 (some (.array (.object "java/lang/Object"))), Cond.fieldLink RJx4a65c 39 "java/util/ArrayList" "DEFAULTCAPACITY_EMPTY_ELEMENTDATA" "[Ljava/lang/Object;", Cond.methodLink RJx4a65c 79 Lib.Math.max.name, Cond.static Lib.Math.max.name, Cond.initialized "java/lang/Math", Cond.code Lib.Math.max.name Lib.Math.max.code 2 (some .int), Cond.classLink RJx4a65c 7 "java/lang/Object", Cond.methodLink RJx4a65c 73 yJ8_newLength_cabcc, Cond.static yJ8_newLength_cabcc, Cond.initialized RJ8, Cond.code yJ8_newLength_cabcc cJ8_newLength_cabcc 4 (some .int), Cond.methodLink RJ8 194 Lib.Math.max.name, Cond.constant RJ8 200 (2147483639), Cond.methodLink RJ8 201 yJ8_hugeLength_7cf53, Cond.static yJ8_hugeLength_7cf53, Cond.code yJ8_hugeLength_7cf53 cJ8_hugeLength_7cf53 3 (some .int), Cond.methodLink RJx4a65c 66 yJ7_copyOf_1904c, Cond.static yJ7_copyOf_1904c, Cond.initialized RJ7, Cond.code yJ7_copyOf_1904c cJ7_copyOf_1904c 2 (some (.array (.object "java/lang/Object"))), Cond.methodLink RJ7 86 ⟨"java/lang/Object", "getClass", "()Ljava/lang/Class;"⟩, Cond.selects "[Ljava/lang/Object;" ⟨"java/lang/Object", "getClass", "()Ljava/lang/Class;"⟩ ⟨"java/lang/Object", "getClass", "()Ljava/lang/Class;"⟩, Cond.instanceMethod ⟨"java/lang/Object", "getClass", "()Ljava/lang/Class;"⟩]
def wsL_lighter_r5 : List Cond := [Cond.native ⟨"java/lang/Object", "getClass", "()Ljava/lang/Class;"⟩, Cond.methodLink RJ7 300 yJ7_copyOf_6403c, Cond.static yJ7_copyOf_6403c, Cond.code yJ7_copyOf_6403c cJ7_copyOf_6403c 4 (some (.array (.object "java/lang/Object"))), Cond.classLink RJ7 110 "[Ljava/lang/Object;", Cond.classLink RJ7 2 "java/lang/Object", Cond.methodLink RJ7 304 Lib.Math.min.name, Cond.static Lib.Math.min.name, Cond.code Lib.Math.min.name Lib.Math.min.code 2 (some .int), Cond.methodLink RJ7 150 arraycopyName, Cond.native arraycopyName, Cond.static arraycopyName, Cond.initialized "java/lang/System"]
def wsL_lighter : List Cond := .codeWith yL_lighter cL_lighter 4 (some .int) [(0, 9, 12, 13), (0, 9, 15, 15)] :: ((wsL_lighter_r1 ++ (wsL_lighter_r2 ++ (wsL_lighter_r3 ++ (wsL_lighter_r4 ++ wsL_lighter_r5)))) ++ wsX50 ++ wsX20 ++ wsJx4a65c0 ++ (vx_atS RX5 40 "java/lang/IllegalStateException" ["java/lang/RuntimeException", "java/lang/Exception"]).filter goodWord ++ (vx_atS RX5 174 "java/lang/IllegalArgumentException" ["java/lang/RuntimeException", "java/lang/Exception"]).filter goodWord)
def wsL_gang_r1 : List Cond := [Cond.classLink RL 13 "java/lang/IllegalArgumentException", Cond.classLink RL 15 "java/lang/IllegalStateException", Cond.methodLink RL 20 yX5_gang, Cond.instanceMethod yX5_gang, Cond.selects RX5 yX5_gang yX5_gang, Cond.initialized RX5, Cond.code yX5_gang cX5_gang 3 (some .int), Cond.classLink RX5 36 "java/lang/IllegalStateException", Cond.initialized "java/lang/IllegalStateException", Cond.fieldLink RX5 19 "CoalHulks" "gangs" "Ljava/util/ArrayList;", Cond.classLink RX5 71 RX0, Cond.instantiable RX0 5, Cond.initialized RX0, Cond.methodLink RX5 28 yX5_refuseOutOfRange, Cond.static yX5_refuseOutOfRange, Cond.code yX5_refuseOutOfRange cX5_refuseOutOfRange 3 none, Cond.classLink RX5 170 "java/lang/IllegalArgumentException", Cond.initialized "java/lang/IllegalArgumentException", Cond.methodLink RX5 32 yJx4a65c_size_8abf5, Cond.instanceMethod yJx4a65c_size_8abf5, Cond.selects RJx4a65c yJx4a65c_size_8abf5 yJx4a65c_size_8abf5, Cond.initialized RJx4a65c, Cond.code yJx4a65c_size_8abf5 cJx4a65c_size_8abf5 1 (some .int), Cond.fieldLink RJx4a65c 48 "java/util/ArrayList" "size" "I"]
def wsL_gang_r2 : List Cond := [Cond.methodLink RX5 73 yX0_init, Cond.instanceMethod yX0_init, Cond.code yX0_init cX0_init 3 none, Cond.methodLink RX0 3 objectInit, Cond.instanceMethod objectInit, Cond.code objectInit ⟨#[0xb1]⟩ 1 none, Cond.fieldLink RX0 9 "CoalHulks$Gang" "number" "I", Cond.fieldLink RX0 15 "CoalHulks$Gang" "men" "I", Cond.methodLink RX5 48 yJx4a65c_add_9ea2d, Cond.instanceMethod yJx4a65c_add_9ea2d, Cond.selects RJx4a65c yJx4a65c_add_9ea2d yJx4a65c_add_9ea2d, Cond.code yJx4a65c_add_9ea2d cJx4a65c_add_9ea2d 2 (some .boolean), Cond.fieldLink RJx4a65c 63 "java/util/ArrayList" "modCount" "I", Cond.sameField "java/util/ArrayList" "java/util/AbstractList" "modCount" "I", Cond.fieldLink RJx4a65c 9 "java/util/ArrayList" "elementData" "[Ljava/lang/Object;", Cond.methodLink RJx4a65c 131 yJx4a65c_add_72be8, Cond.instanceMethod yJx4a65c_add_72be8, Cond.selects RJx4a65c yJx4a65c_add_72be8 yJx4a65c_add_72be8, Cond.code yJx4a65c_add_72be8 cJx4a65c_add_72be8 4 none, Cond.methodLink RJx4a65c 129 yJx4a65c_grow_d5877, Cond.instanceMethod yJx4a65c_grow_d5877, Cond.selects RJx4a65c yJx4a65c_grow_d5877 yJx4a65c_grow_d5877, Cond.code yJx4a65c_grow_d5877 cJx4a65c_grow_d5877 1 (some (.array (.object "java/lang/Object"))), Cond.methodLink RJx4a65c 69 yJx4a65c_grow_92f84]
def wsL_gang_r3 : List Cond := [Cond.instanceMethod yJx4a65c_grow_92f84, Cond.selects RJx4a65c yJx4a65c_grow_92f84 yJx4a65c_grow_92f84, Cond.code yJx4a65c_grow_92f84 cJx4a65c_grow_92f84 4 (some (.array (.object "java/lang/Object"))), Cond.fieldLink RJx4a65c 39 "java/util/ArrayList" "DEFAULTCAPACITY_EMPTY_ELEMENTDATA" "[Ljava/lang/Object;", Cond.methodLink RJx4a65c 79 Lib.Math.max.name, Cond.static Lib.Math.max.name, Cond.initialized "java/lang/Math", Cond.code Lib.Math.max.name Lib.Math.max.code 2 (some .int), Cond.classLink RJx4a65c 7 "java/lang/Object", Cond.methodLink RJx4a65c 73 yJ8_newLength_cabcc, Cond.static yJ8_newLength_cabcc, Cond.initialized RJ8, Cond.code yJ8_newLength_cabcc cJ8_newLength_cabcc 4 (some .int), Cond.methodLink RJ8 194 Lib.Math.max.name, Cond.constant RJ8 200 (2147483639), Cond.methodLink RJ8 201 yJ8_hugeLength_7cf53, Cond.static yJ8_hugeLength_7cf53, Cond.code yJ8_hugeLength_7cf53 cJ8_hugeLength_7cf53 3 (some .int), Cond.methodLink RJx4a65c 66 yJ7_copyOf_1904c, Cond.static yJ7_copyOf_1904c, Cond.initialized RJ7, Cond.code yJ7_copyOf_1904c cJ7_copyOf_1904c 2 (some (.array (.object "java/lang/Object"))), Cond.methodLink RJ7 86 ⟨"java/lang/Object", "getClass", "()Ljava/lang/Class;"⟩, Cond.selects "[Ljava/lang/Object;" ⟨"java/lang/Object", "getClass", "()Ljava/lang/Class;"⟩ ⟨"java/lang/Object", "getClass", "()Ljava/lang/Class;"⟩]
def wsL_gang_r4 : List Cond := [Cond.instanceMethod ⟨"java/lang/Object", "getClass", "()Ljava/lang/Class;"⟩, Cond.native ⟨"java/lang/Object", "getClass", "()Ljava/lang/Class;"⟩, Cond.methodLink RJ7 300 yJ7_copyOf_6403c, Cond.static yJ7_copyOf_6403c, Cond.code yJ7_copyOf_6403c cJ7_copyOf_6403c 4 (some (.array (.object "java/lang/Object"))), Cond.classLink RJ7 110 "[Ljava/lang/Object;", Cond.classLink RJ7 2 "java/lang/Object", Cond.methodLink RJ7 304 Lib.Math.min.name, Cond.static Lib.Math.min.name, Cond.code Lib.Math.min.name Lib.Math.min.code 2 (some .int), Cond.methodLink RJ7 150 arraycopyName, Cond.native arraycopyName, Cond.static arraycopyName, Cond.initialized "java/lang/System"]
def wsL_gang : List Cond := .codeWith yL_gang cL_gang 4 (some .int) [(0, 9, 12, 13), (0, 9, 15, 15)] :: ((wsL_gang_r1 ++ (wsL_gang_r2 ++ (wsL_gang_r3 ++ wsL_gang_r4))) ++ wsX50 ++ wsX00 ++ wsJx4a65c0 ++ (vx_atS RX5 40 "java/lang/IllegalStateException" ["java/lang/RuntimeException", "java/lang/Exception"]).filter goodWord ++ (vx_atS RX5 174 "java/lang/IllegalArgumentException" ["java/lang/RuntimeException", "java/lang/Exception"]).filter goodWord)
def wsL_steamer_r1 : List Cond := [Cond.classLink RL 13 "java/lang/IllegalArgumentException", Cond.classLink RL 15 "java/lang/IllegalStateException", Cond.methodLink RL 23 yX5_steamer, Cond.instanceMethod yX5_steamer, Cond.selects RX5 yX5_steamer yX5_steamer, Cond.initialized RX5, Cond.code yX5_steamer cX5_steamer 5 (some .int), Cond.classLink RX5 36 "java/lang/IllegalStateException", Cond.initialized "java/lang/IllegalStateException", Cond.fieldLink RX5 22 "CoalHulks" "steamers" "Ljava/util/ArrayList;", Cond.classLink RX5 82 RX4, Cond.instantiable RX4 4, Cond.initialized RX4, Cond.fieldLink RX5 25 "CoalHulks" "present" "Ljava/util/ArrayList;", Cond.methodLink RX5 28 yX5_refuseOutOfRange, Cond.static yX5_refuseOutOfRange, Cond.code yX5_refuseOutOfRange cX5_refuseOutOfRange 3 none, Cond.classLink RX5 170 "java/lang/IllegalArgumentException", Cond.initialized "java/lang/IllegalArgumentException", Cond.methodLink RX5 32 yJx4a65c_size_8abf5, Cond.instanceMethod yJx4a65c_size_8abf5, Cond.selects RJx4a65c yJx4a65c_size_8abf5 yJx4a65c_size_8abf5, Cond.initialized RJx4a65c, Cond.code yJx4a65c_size_8abf5 cJx4a65c_size_8abf5 1 (some .int)]
def wsL_steamer_r2 : List Cond := [Cond.fieldLink RJx4a65c 48 "java/util/ArrayList" "size" "I", Cond.methodLink RX5 76 yX5_countFaring, Cond.instanceMethod yX5_countFaring, Cond.selects RX5 yX5_countFaring yX5_countFaring, Cond.code yX5_countFaring cX5_countFaring 4 (some .int), Cond.classLink RX5 82 "CoalHulks$Steamer", Cond.fieldLink RX5 164 "CoalHulks$Steamer" "fate" "I", Cond.methodLink RX5 62 yJx4a65c_get_915e3, Cond.instanceMethod yJx4a65c_get_915e3, Cond.selects RJx4a65c yJx4a65c_get_915e3 yJx4a65c_get_915e3, Cond.code yJx4a65c_get_915e3 cJx4a65c_get_915e3 2 (some (.object "java/lang/Object")), Cond.methodLink RJx4a65c 118 yJ15_checkIndex_7cf53, Cond.static yJ15_checkIndex_7cf53, Cond.initialized RJ15, Cond.code yJ15_checkIndex_7cf53 cJ15_checkIndex_7cf53 2 (some .int), Cond.methodLink RJ15 105 yJ3_checkIndex_8e157, Cond.static yJ3_checkIndex_8e157, Cond.initialized RJ3, Cond.code yJ3_checkIndex_8e157 cJ3_checkIndex_8e157 3 (some .int), Cond.methodLink RJx4a65c 123 yJx4a65c_elementData_915e3, Cond.instanceMethod yJx4a65c_elementData_915e3, Cond.selects RJx4a65c yJx4a65c_elementData_915e3 yJx4a65c_elementData_915e3, Cond.code yJx4a65c_elementData_915e3 cJx4a65c_elementData_915e3 2 (some (.object "java/lang/Object")), Cond.fieldLink RJx4a65c 9 "java/util/ArrayList" "elementData" "[Ljava/lang/Object;"]
def wsL_steamer_r3 : List Cond := [Cond.methodLink RX5 84 yX4_init, Cond.instanceMethod yX4_init, Cond.code yX4_init cX4_init 4 none, Cond.methodLink RX4 3 objectInit, Cond.instanceMethod objectInit, Cond.code objectInit ⟨#[0xb1]⟩ 1 none, Cond.fieldLink RX4 9 "CoalHulks$Steamer" "number" "I", Cond.fieldLink RX4 15 "CoalHulks$Steamer" "want" "I", Cond.fieldLink RX4 18 "CoalHulks$Steamer" "patience" "I", Cond.fieldLink RX4 21 "CoalHulks$Steamer" "fate" "I", Cond.methodLink RX5 48 yJx4a65c_add_9ea2d, Cond.instanceMethod yJx4a65c_add_9ea2d, Cond.selects RJx4a65c yJx4a65c_add_9ea2d yJx4a65c_add_9ea2d, Cond.code yJx4a65c_add_9ea2d cJx4a65c_add_9ea2d 2 (some .boolean), Cond.fieldLink RJx4a65c 63 "java/util/ArrayList" "modCount" "I", Cond.sameField "java/util/ArrayList" "java/util/AbstractList" "modCount" "I", Cond.methodLink RJx4a65c 131 yJx4a65c_add_72be8, Cond.instanceMethod yJx4a65c_add_72be8, Cond.selects RJx4a65c yJx4a65c_add_72be8 yJx4a65c_add_72be8, Cond.code yJx4a65c_add_72be8 cJx4a65c_add_72be8 4 none, Cond.methodLink RJx4a65c 129 yJx4a65c_grow_d5877, Cond.instanceMethod yJx4a65c_grow_d5877, Cond.selects RJx4a65c yJx4a65c_grow_d5877 yJx4a65c_grow_d5877, Cond.code yJx4a65c_grow_d5877 cJx4a65c_grow_d5877 1 (some (.array (.object "java/lang/Object")))]
def wsL_steamer_r4 : List Cond := [Cond.methodLink RJx4a65c 69 yJx4a65c_grow_92f84, Cond.instanceMethod yJx4a65c_grow_92f84, Cond.selects RJx4a65c yJx4a65c_grow_92f84 yJx4a65c_grow_92f84, Cond.code yJx4a65c_grow_92f84 cJx4a65c_grow_92f84 4 (some (.array (.object "java/lang/Object"))), Cond.fieldLink RJx4a65c 39 "java/util/ArrayList" "DEFAULTCAPACITY_EMPTY_ELEMENTDATA" "[Ljava/lang/Object;", Cond.methodLink RJx4a65c 79 Lib.Math.max.name, Cond.static Lib.Math.max.name, Cond.initialized "java/lang/Math", Cond.code Lib.Math.max.name Lib.Math.max.code 2 (some .int), Cond.classLink RJx4a65c 7 "java/lang/Object", Cond.methodLink RJx4a65c 73 yJ8_newLength_cabcc, Cond.static yJ8_newLength_cabcc, Cond.initialized RJ8, Cond.code yJ8_newLength_cabcc cJ8_newLength_cabcc 4 (some .int), Cond.methodLink RJ8 194 Lib.Math.max.name, Cond.constant RJ8 200 (2147483639), Cond.methodLink RJ8 201 yJ8_hugeLength_7cf53, Cond.static yJ8_hugeLength_7cf53, Cond.code yJ8_hugeLength_7cf53 cJ8_hugeLength_7cf53 3 (some .int), Cond.methodLink RJx4a65c 66 yJ7_copyOf_1904c, Cond.static yJ7_copyOf_1904c, Cond.initialized RJ7, Cond.code yJ7_copyOf_1904c cJ7_copyOf_1904c 2 (some (.array (.object "java/lang/Object"))), Cond.methodLink RJ7 86 ⟨"java/lang/Object", "getClass", "()Ljava/lang/Class;"⟩]
def wsL_steamer_r5 : List Cond := [Cond.selects "[Ljava/lang/Object;" ⟨"java/lang/Object", "getClass", "()Ljava/lang/Class;"⟩ ⟨"java/lang/Object", "getClass", "()Ljava/lang/Class;"⟩, Cond.instanceMethod ⟨"java/lang/Object", "getClass", "()Ljava/lang/Class;"⟩, Cond.native ⟨"java/lang/Object", "getClass", "()Ljava/lang/Class;"⟩, Cond.methodLink RJ7 300 yJ7_copyOf_6403c, Cond.static yJ7_copyOf_6403c, Cond.code yJ7_copyOf_6403c cJ7_copyOf_6403c 4 (some (.array (.object "java/lang/Object"))), Cond.classLink RJ7 110 "[Ljava/lang/Object;", Cond.classLink RJ7 2 "java/lang/Object", Cond.methodLink RJ7 304 Lib.Math.min.name, Cond.static Lib.Math.min.name, Cond.code Lib.Math.min.name Lib.Math.min.code 2 (some .int), Cond.methodLink RJ7 150 arraycopyName, Cond.native arraycopyName, Cond.static arraycopyName, Cond.initialized "java/lang/System"]
def wsL_steamer : List Cond := .codeWith yL_steamer cL_steamer 5 (some .int) [(0, 10, 13, 13), (0, 10, 17, 15)] :: ((wsL_steamer_r1 ++ (wsL_steamer_r2 ++ (wsL_steamer_r3 ++ (wsL_steamer_r4 ++ wsL_steamer_r5)))) ++ wsX50 ++ wsX40 ++ wsJx4a65c0 ++ (vx_atS RX5 40 "java/lang/IllegalStateException" ["java/lang/RuntimeException", "java/lang/Exception"]).filter goodWord ++ (vx_atS RX5 174 "java/lang/IllegalArgumentException" ["java/lang/RuntimeException", "java/lang/Exception"]).filter goodWord)
def wsL_order_r1 : List Cond := [Cond.classLink RL 31 "java/lang/IndexOutOfBoundsException", Cond.classLink RL 15 "java/lang/IllegalStateException", Cond.methodLink RL 27 yX5_order, Cond.instanceMethod yX5_order, Cond.selects RX5 yX5_order yX5_order, Cond.initialized RX5, Cond.code yX5_order cX5_order 7 none, Cond.classLink RX5 36 "java/lang/IllegalStateException", Cond.initialized "java/lang/IllegalStateException", Cond.classLink RX5 111 RX3, Cond.instantiable RX3 2, Cond.initialized RX3, Cond.fieldLink RX5 116 "CoalHulks$Lighter" "task" "LCoalHulks$Order;", Cond.fieldLink RX5 120 "CoalHulks$Gang" "aboard" "Z", Cond.methodLink RX5 86 yX5_findLighter, Cond.instanceMethod yX5_findLighter, Cond.selects RX5 yX5_findLighter yX5_findLighter, Cond.code yX5_findLighter cX5_findLighter 2 (some (.object "CoalHulks$Lighter")), Cond.classLink RX5 188 "java/lang/IndexOutOfBoundsException", Cond.initialized "java/lang/IndexOutOfBoundsException", Cond.fieldLink RX5 16 "CoalHulks" "lighters" "Ljava/util/ArrayList;", Cond.classLink RX5 60 "CoalHulks$Lighter", Cond.methodLink RX5 32 yJx4a65c_size_8abf5, Cond.instanceMethod yJx4a65c_size_8abf5]
def wsL_order_r2 : List Cond := [Cond.selects RJx4a65c yJx4a65c_size_8abf5 yJx4a65c_size_8abf5, Cond.initialized RJx4a65c, Cond.code yJx4a65c_size_8abf5 cJx4a65c_size_8abf5 1 (some .int), Cond.fieldLink RJx4a65c 48 "java/util/ArrayList" "size" "I", Cond.methodLink RX5 62 yJx4a65c_get_915e3, Cond.instanceMethod yJx4a65c_get_915e3, Cond.selects RJx4a65c yJx4a65c_get_915e3 yJx4a65c_get_915e3, Cond.code yJx4a65c_get_915e3 cJx4a65c_get_915e3 2 (some (.object "java/lang/Object")), Cond.methodLink RJx4a65c 118 yJ15_checkIndex_7cf53, Cond.static yJ15_checkIndex_7cf53, Cond.initialized RJ15, Cond.code yJ15_checkIndex_7cf53 cJ15_checkIndex_7cf53 2 (some .int), Cond.methodLink RJ15 105 yJ3_checkIndex_8e157, Cond.static yJ3_checkIndex_8e157, Cond.initialized RJ3, Cond.code yJ3_checkIndex_8e157 cJ3_checkIndex_8e157 3 (some .int), Cond.methodLink RJx4a65c 123 yJx4a65c_elementData_915e3, Cond.instanceMethod yJx4a65c_elementData_915e3, Cond.selects RJx4a65c yJx4a65c_elementData_915e3 yJx4a65c_elementData_915e3, Cond.code yJx4a65c_elementData_915e3 cJx4a65c_elementData_915e3 2 (some (.object "java/lang/Object")), Cond.fieldLink RJx4a65c 9 "java/util/ArrayList" "elementData" "[Ljava/lang/Object;", Cond.methodLink RX5 90 yX5_findGang, Cond.instanceMethod yX5_findGang, Cond.selects RX5 yX5_findGang yX5_findGang]
def wsL_order_r3 : List Cond := [Cond.code yX5_findGang cX5_findGang 2 (some (.object "CoalHulks$Gang")), Cond.fieldLink RX5 19 "CoalHulks" "gangs" "Ljava/util/ArrayList;", Cond.classLink RX5 71 "CoalHulks$Gang", Cond.methodLink RX5 94 yX5_findSteamer, Cond.instanceMethod yX5_findSteamer, Cond.selects RX5 yX5_findSteamer yX5_findSteamer, Cond.code yX5_findSteamer cX5_findSteamer 2 (some (.object "CoalHulks$Steamer")), Cond.fieldLink RX5 22 "CoalHulks" "steamers" "Ljava/util/ArrayList;", Cond.classLink RX5 82 "CoalHulks$Steamer", Cond.methodLink RX5 98 yX5_refuseOrdered, Cond.static yX5_refuseOrdered, Cond.code yX5_refuseOrdered cX5_refuseOrdered 1 none, Cond.methodLink RX5 102 yX5_refuseBusy, Cond.static yX5_refuseBusy, Cond.code yX5_refuseBusy cX5_refuseBusy 1 none, Cond.methodLink RX5 183 yX0_isFree, Cond.instanceMethod yX0_isFree, Cond.selects RX0 yX0_isFree yX0_isFree, Cond.initialized RX0, Cond.code yX0_isFree cX0_isFree 1 (some .boolean), Cond.fieldLink RX0 18 "CoalHulks$Gang" "aboard" "Z", Cond.fieldLink RX0 22 "CoalHulks$Gang" "rest" "I", Cond.methodLink RX5 106 yX4_hasLeft, Cond.instanceMethod yX4_hasLeft]
def wsL_order_r4 : List Cond := [Cond.selects RX4 yX4_hasLeft yX4_hasLeft, Cond.initialized RX4, Cond.code yX4_hasLeft cX4_hasLeft 1 (some .boolean), Cond.fieldLink RX4 21 "CoalHulks$Steamer" "fate" "I", Cond.methodLink RX5 113 yX3_init, Cond.instanceMethod yX3_init, Cond.code yX3_init cX3_init 3 none, Cond.methodLink RX3 1 objectInit, Cond.instanceMethod objectInit, Cond.code objectInit ⟨#[0xb1]⟩ 1 none, Cond.fieldLink RX3 7 "CoalHulks$Order" "shovellers" "LCoalHulks$Gang;", Cond.fieldLink RX3 13 "CoalHulks$Order" "target" "LCoalHulks$Steamer;"]
def wsL_order : List Cond := .codeWith yL_order cL_order 5 (some .int) [(0, 7, 10, 31), (0, 7, 14, 15)] :: ((wsL_order_r1 ++ (wsL_order_r2 ++ (wsL_order_r3 ++ wsL_order_r4))) ++ wsX30 ++ wsX20 ++ wsX00 ++ wsX50 ++ wsJx4a65c0 ++ wsX40 ++ (vx_atS RX5 40 "java/lang/IllegalStateException" ["java/lang/RuntimeException", "java/lang/Exception"]).filter goodWord ++ (vx_atS RX5 192 "java/lang/IndexOutOfBoundsException" ["java/lang/RuntimeException", "java/lang/Exception"]).filter goodWord)
def wsL_shift_r1 : List Cond := [Cond.classLink RL 31 "java/lang/IndexOutOfBoundsException", Cond.classLink RL 15 "java/lang/IllegalStateException", Cond.methodLink RL 33 yX5_shift, Cond.instanceMethod yX5_shift, Cond.selects RX5 yX5_shift yX5_shift, Cond.initialized RX5, Cond.code yX5_shift cX5_shift 5 none, Cond.fieldLink RX5 128 "CoalHulks$Lighter" "home" "LCoalHulks$Hulk;", Cond.methodLink RX5 86 yX5_findLighter, Cond.instanceMethod yX5_findLighter, Cond.selects RX5 yX5_findLighter yX5_findLighter, Cond.code yX5_findLighter cX5_findLighter 2 (some (.object "CoalHulks$Lighter")), Cond.classLink RX5 188 "java/lang/IndexOutOfBoundsException", Cond.initialized "java/lang/IndexOutOfBoundsException", Cond.fieldLink RX5 16 "CoalHulks" "lighters" "Ljava/util/ArrayList;", Cond.classLink RX5 60 "CoalHulks$Lighter", Cond.methodLink RX5 32 yJx4a65c_size_8abf5, Cond.instanceMethod yJx4a65c_size_8abf5, Cond.selects RJx4a65c yJx4a65c_size_8abf5 yJx4a65c_size_8abf5, Cond.initialized RJx4a65c, Cond.code yJx4a65c_size_8abf5 cJx4a65c_size_8abf5 1 (some .int), Cond.fieldLink RJx4a65c 48 "java/util/ArrayList" "size" "I", Cond.methodLink RX5 62 yJx4a65c_get_915e3, Cond.instanceMethod yJx4a65c_get_915e3]
def wsL_shift_r2 : List Cond := [Cond.selects RJx4a65c yJx4a65c_get_915e3 yJx4a65c_get_915e3, Cond.code yJx4a65c_get_915e3 cJx4a65c_get_915e3 2 (some (.object "java/lang/Object")), Cond.methodLink RJx4a65c 118 yJ15_checkIndex_7cf53, Cond.static yJ15_checkIndex_7cf53, Cond.initialized RJ15, Cond.code yJ15_checkIndex_7cf53 cJ15_checkIndex_7cf53 2 (some .int), Cond.methodLink RJ15 105 yJ3_checkIndex_8e157, Cond.static yJ3_checkIndex_8e157, Cond.initialized RJ3, Cond.code yJ3_checkIndex_8e157 cJ3_checkIndex_8e157 3 (some .int), Cond.methodLink RJx4a65c 123 yJx4a65c_elementData_915e3, Cond.instanceMethod yJx4a65c_elementData_915e3, Cond.selects RJx4a65c yJx4a65c_elementData_915e3 yJx4a65c_elementData_915e3, Cond.code yJx4a65c_elementData_915e3 cJx4a65c_elementData_915e3 2 (some (.object "java/lang/Object")), Cond.fieldLink RJx4a65c 9 "java/util/ArrayList" "elementData" "[Ljava/lang/Object;", Cond.methodLink RX5 124 yX5_findHulk, Cond.instanceMethod yX5_findHulk, Cond.selects RX5 yX5_findHulk yX5_findHulk, Cond.code yX5_findHulk cX5_findHulk 2 (some (.object "CoalHulks$Hulk")), Cond.fieldLink RX5 10 "CoalHulks" "hulks" "Ljava/util/ArrayList;", Cond.classLink RX5 43 "CoalHulks$Hulk", Cond.methodLink RX5 98 yX5_refuseOrdered, Cond.static yX5_refuseOrdered, Cond.code yX5_refuseOrdered cX5_refuseOrdered 1 none]
def wsL_shift_r3 : List Cond := [Cond.classLink RX5 36 "java/lang/IllegalStateException", Cond.initialized "java/lang/IllegalStateException", Cond.fieldLink RX5 116 "CoalHulks$Lighter" "task" "LCoalHulks$Order;"]
def wsL_shift : List Cond := .codeWith yL_shift cL_shift 4 (some .int) [(0, 6, 9, 31), (0, 6, 12, 15)] :: ((wsL_shift_r1 ++ (wsL_shift_r2 ++ wsL_shift_r3)) ++ wsX20 ++ wsX50 ++ wsJx4a65c0 ++ (vx_atS RX5 192 "java/lang/IndexOutOfBoundsException" ["java/lang/RuntimeException", "java/lang/Exception"]).filter goodWord ++ (vx_atS RX5 40 "java/lang/IllegalStateException" ["java/lang/RuntimeException", "java/lang/Exception"]).filter goodWord)
def wsL_sweep_r1 : List Cond := [Cond.classLink RL 31 "java/lang/IndexOutOfBoundsException", Cond.classLink RL 15 "java/lang/IllegalStateException", Cond.methodLink RL 37 yX5_sweep, Cond.instanceMethod yX5_sweep, Cond.selects RX5 yX5_sweep yX5_sweep, Cond.initialized RX5, Cond.code yX5_sweep cX5_sweep 6 (some .int), Cond.fieldLink RX5 132 "CoalHulks$Lighter" "dust" "I", Cond.fieldLink RX5 128 "CoalHulks$Lighter" "home" "LCoalHulks$Hulk;", Cond.fieldLink RX5 136 "CoalHulks$Hulk" "coal" "I", Cond.methodLink RX5 86 yX5_findLighter, Cond.instanceMethod yX5_findLighter, Cond.selects RX5 yX5_findLighter yX5_findLighter, Cond.code yX5_findLighter cX5_findLighter 2 (some (.object "CoalHulks$Lighter")), Cond.classLink RX5 188 "java/lang/IndexOutOfBoundsException", Cond.initialized "java/lang/IndexOutOfBoundsException", Cond.fieldLink RX5 16 "CoalHulks" "lighters" "Ljava/util/ArrayList;", Cond.classLink RX5 60 "CoalHulks$Lighter", Cond.methodLink RX5 32 yJx4a65c_size_8abf5, Cond.instanceMethod yJx4a65c_size_8abf5, Cond.selects RJx4a65c yJx4a65c_size_8abf5 yJx4a65c_size_8abf5, Cond.initialized RJx4a65c, Cond.code yJx4a65c_size_8abf5 cJx4a65c_size_8abf5 1 (some .int), Cond.fieldLink RJx4a65c 48 "java/util/ArrayList" "size" "I"]
def wsL_sweep_r2 : List Cond := [Cond.methodLink RX5 62 yJx4a65c_get_915e3, Cond.instanceMethod yJx4a65c_get_915e3, Cond.selects RJx4a65c yJx4a65c_get_915e3 yJx4a65c_get_915e3, Cond.code yJx4a65c_get_915e3 cJx4a65c_get_915e3 2 (some (.object "java/lang/Object")), Cond.methodLink RJx4a65c 118 yJ15_checkIndex_7cf53, Cond.static yJ15_checkIndex_7cf53, Cond.initialized RJ15, Cond.code yJ15_checkIndex_7cf53 cJ15_checkIndex_7cf53 2 (some .int), Cond.methodLink RJ15 105 yJ3_checkIndex_8e157, Cond.static yJ3_checkIndex_8e157, Cond.initialized RJ3, Cond.code yJ3_checkIndex_8e157 cJ3_checkIndex_8e157 3 (some .int), Cond.methodLink RJx4a65c 123 yJx4a65c_elementData_915e3, Cond.instanceMethod yJx4a65c_elementData_915e3, Cond.selects RJx4a65c yJx4a65c_elementData_915e3 yJx4a65c_elementData_915e3, Cond.code yJx4a65c_elementData_915e3 cJx4a65c_elementData_915e3 2 (some (.object "java/lang/Object")), Cond.fieldLink RJx4a65c 9 "java/util/ArrayList" "elementData" "[Ljava/lang/Object;", Cond.methodLink RX5 90 yX5_findGang, Cond.instanceMethod yX5_findGang, Cond.selects RX5 yX5_findGang yX5_findGang, Cond.code yX5_findGang cX5_findGang 2 (some (.object "CoalHulks$Gang")), Cond.fieldLink RX5 19 "CoalHulks" "gangs" "Ljava/util/ArrayList;", Cond.classLink RX5 71 "CoalHulks$Gang", Cond.methodLink RX5 98 yX5_refuseOrdered]
def wsL_sweep_r3 : List Cond := [Cond.static yX5_refuseOrdered, Cond.code yX5_refuseOrdered cX5_refuseOrdered 1 none, Cond.classLink RX5 36 "java/lang/IllegalStateException", Cond.initialized "java/lang/IllegalStateException", Cond.fieldLink RX5 116 "CoalHulks$Lighter" "task" "LCoalHulks$Order;", Cond.methodLink RX5 102 yX5_refuseBusy, Cond.static yX5_refuseBusy, Cond.code yX5_refuseBusy cX5_refuseBusy 1 none, Cond.methodLink RX5 183 yX0_isFree, Cond.instanceMethod yX0_isFree, Cond.selects RX0 yX0_isFree yX0_isFree, Cond.initialized RX0, Cond.code yX0_isFree cX0_isFree 1 (some .boolean), Cond.fieldLink RX0 18 "CoalHulks$Gang" "aboard" "Z", Cond.fieldLink RX0 22 "CoalHulks$Gang" "rest" "I", Cond.methodLink RX5 139 yX0_lieDown, Cond.instanceMethod yX0_lieDown, Cond.selects RX0 yX0_lieDown yX0_lieDown, Cond.code yX0_lieDown cX0_lieDown 1 none, Cond.fieldLink RX0 25 "CoalHulks$Gang" "hoursCounted" "I"]
def wsL_sweep : List Cond := .codeWith yL_sweep cL_sweep 5 (some .int) [(0, 10, 13, 31), (0, 10, 17, 15)] :: ((wsL_sweep_r1 ++ (wsL_sweep_r2 ++ wsL_sweep_r3)) ++ wsX20 ++ wsX10 ++ wsX50 ++ wsJx4a65c0 ++ wsX00 ++ (vx_atS RX5 192 "java/lang/IndexOutOfBoundsException" ["java/lang/RuntimeException", "java/lang/Exception"]).filter goodWord ++ (vx_atS RX5 40 "java/lang/IllegalStateException" ["java/lang/RuntimeException", "java/lang/Exception"]).filter goodWord)
def wsL_hours_r1 : List Cond := [Cond.classLink RL 13 "java/lang/IllegalArgumentException", Cond.methodLink RL 40 yX5_hours, Cond.instanceMethod yX5_hours, Cond.selects RX5 yX5_hours yX5_hours, Cond.initialized RX5, Cond.code yX5_hours cX5_hours 4 (some .int), Cond.methodLink RX5 28 yX5_refuseOutOfRange, Cond.static yX5_refuseOutOfRange, Cond.code yX5_refuseOutOfRange cX5_refuseOutOfRange 3 none, Cond.classLink RX5 170 "java/lang/IllegalArgumentException", Cond.initialized "java/lang/IllegalArgumentException", Cond.methodLink RX5 142 yX5_passAnHour, Cond.instanceMethod yX5_passAnHour, Cond.selects RX5 yX5_passAnHour yX5_passAnHour, Cond.code yX5_passAnHour cX5_passAnHour 2 (some .int), Cond.fieldLink RX5 145 "CoalHulks" "hoursGone" "I", Cond.methodLink RX5 199 yX5_restGangs, Cond.instanceMethod yX5_restGangs, Cond.selects RX5 yX5_restGangs yX5_restGangs, Cond.code yX5_restGangs cX5_restGangs 3 none, Cond.fieldLink RX5 19 "CoalHulks" "gangs" "Ljava/util/ArrayList;", Cond.classLink RX5 71 "CoalHulks$Gang", Cond.fieldLink RX5 161 "CoalHulks$Gang" "rest" "I", Cond.methodLink RX5 32 yJx4a65c_size_8abf5]
def wsL_hours_r2 : List Cond := [Cond.instanceMethod yJx4a65c_size_8abf5, Cond.selects RJx4a65c yJx4a65c_size_8abf5 yJx4a65c_size_8abf5, Cond.initialized RJx4a65c, Cond.code yJx4a65c_size_8abf5 cJx4a65c_size_8abf5 1 (some .int), Cond.fieldLink RJx4a65c 48 "java/util/ArrayList" "size" "I", Cond.methodLink RX5 62 yJx4a65c_get_915e3, Cond.instanceMethod yJx4a65c_get_915e3, Cond.selects RJx4a65c yJx4a65c_get_915e3 yJx4a65c_get_915e3, Cond.code yJx4a65c_get_915e3 cJx4a65c_get_915e3 2 (some (.object "java/lang/Object")), Cond.methodLink RJx4a65c 118 yJ15_checkIndex_7cf53, Cond.static yJ15_checkIndex_7cf53, Cond.initialized RJ15, Cond.code yJ15_checkIndex_7cf53 cJ15_checkIndex_7cf53 2 (some .int), Cond.methodLink RJ15 105 yJ3_checkIndex_8e157, Cond.static yJ3_checkIndex_8e157, Cond.initialized RJ3, Cond.code yJ3_checkIndex_8e157 cJ3_checkIndex_8e157 3 (some .int), Cond.methodLink RJx4a65c 123 yJx4a65c_elementData_915e3, Cond.instanceMethod yJx4a65c_elementData_915e3, Cond.selects RJx4a65c yJx4a65c_elementData_915e3 yJx4a65c_elementData_915e3, Cond.code yJx4a65c_elementData_915e3 cJx4a65c_elementData_915e3 2 (some (.object "java/lang/Object")), Cond.fieldLink RJx4a65c 9 "java/util/ArrayList" "elementData" "[Ljava/lang/Object;", Cond.methodLink RX5 202 yX5_takeBuoys, Cond.instanceMethod yX5_takeBuoys]
def wsL_hours_r3 : List Cond := [Cond.selects RX5 yX5_takeBuoys yX5_takeBuoys, Cond.code yX5_takeBuoys cX5_takeBuoys 4 none, Cond.fieldLink RX5 25 "CoalHulks" "present" "Ljava/util/ArrayList;", Cond.classLink RX5 82 "CoalHulks$Steamer", Cond.fieldLink RX5 164 "CoalHulks$Steamer" "fate" "I", Cond.methodLink RX5 76 yX5_countFaring, Cond.instanceMethod yX5_countFaring, Cond.selects RX5 yX5_countFaring yX5_countFaring, Cond.code yX5_countFaring cX5_countFaring 4 (some .int), Cond.methodLink RX5 205 yX5_workLighters, Cond.instanceMethod yX5_workLighters, Cond.selects RX5 yX5_workLighters yX5_workLighters, Cond.code yX5_workLighters cX5_workLighters 4 none, Cond.fieldLink RX5 16 "CoalHulks" "lighters" "Ljava/util/ArrayList;", Cond.classLink RX5 60 "CoalHulks$Lighter", Cond.fieldLink RX5 116 "CoalHulks$Lighter" "task" "LCoalHulks$Order;", Cond.fieldLink RX5 154 "CoalHulks$Order" "shovellers" "LCoalHulks$Gang;", Cond.fieldLink RX5 211 "CoalHulks$Gang" "hoursCounted" "I", Cond.methodLink RX5 214 yX5_work, Cond.instanceMethod yX5_work, Cond.selects RX5 yX5_work yX5_work, Cond.code yX5_work cX5_work 3 none, Cond.fieldLink RX5 148 "CoalHulks$Lighter" "place" "I", Cond.methodLink RX5 218 yX5_workAtHulk]
def wsL_hours_r4 : List Cond := [Cond.static yX5_workAtHulk, Cond.code yX5_workAtHulk cX5_workAtHulk 3 none, Cond.fieldLink RX5 151 "CoalHulks$Lighter" "load" "I", Cond.fieldLink RX5 230 "CoalHulks$Lighter" "hold" "I", Cond.fieldLink RX5 128 "CoalHulks$Lighter" "home" "LCoalHulks$Hulk;", Cond.fieldLink RX5 136 "CoalHulks$Hulk" "coal" "I", Cond.fieldLink RX5 237 "CoalHulks$Lighter" "hoursOut" "I", Cond.methodLink RX5 233 yX5_shovelFromHulk, Cond.static yX5_shovelFromHulk, Cond.code yX5_shovelFromHulk cX5_shovelFromHulk 5 none, Cond.methodLink RX5 243 Lib.Math.min.name, Cond.static Lib.Math.min.name, Cond.initialized "java/lang/Math", Cond.code Lib.Math.min.name Lib.Math.min.code 2 (some .int), Cond.fieldLink RX5 132 "CoalHulks$Lighter" "dust" "I", Cond.methodLink RX5 249 yX0_strength, Cond.instanceMethod yX0_strength, Cond.selects RX0 yX0_strength yX0_strength, Cond.initialized RX0, Cond.code yX0_strength cX0_strength 3 (some .int), Cond.fieldLink RX0 15 "CoalHulks$Gang" "men" "I", Cond.methodLink RX5 240 yX5_endOrder, Cond.static yX5_endOrder, Cond.code yX5_endOrder cX5_endOrder 3 none]
def wsL_hours_r5 : List Cond := [Cond.fieldLink RX5 120 "CoalHulks$Gang" "aboard" "Z", Cond.methodLink RX5 139 yX0_lieDown, Cond.instanceMethod yX0_lieDown, Cond.selects RX0 yX0_lieDown yX0_lieDown, Cond.code yX0_lieDown cX0_lieDown 1 none, Cond.fieldLink RX0 22 "CoalHulks$Gang" "rest" "I", Cond.fieldLink RX0 25 "CoalHulks$Gang" "hoursCounted" "I", Cond.methodLink RX5 221 yX5_goOutward, Cond.static yX5_goOutward, Cond.code yX5_goOutward cX5_goOutward 1 none, Cond.methodLink RX5 224 yX5_workAtSteamer, Cond.instanceMethod yX5_workAtSteamer, Cond.selects RX5 yX5_workAtSteamer yX5_workAtSteamer, Cond.code yX5_workAtSteamer cX5_workAtSteamer 3 none, Cond.fieldLink RX5 252 "CoalHulks$Order" "target" "LCoalHulks$Steamer;", Cond.methodLink RX5 256 yX5_shovelIntoSteamer, Cond.instanceMethod yX5_shovelIntoSteamer, Cond.selects RX5 yX5_shovelIntoSteamer yX5_shovelIntoSteamer, Cond.code yX5_shovelIntoSteamer cX5_shovelIntoSteamer 7 none, Cond.fieldLink RX5 167 "CoalHulks$Steamer" "want" "I", Cond.fieldLink RX5 176 "CoalHulks" "coalDelivered" "I", Cond.methodLink RX5 227 yX5_comeHome, Cond.static yX5_comeHome, Cond.code yX5_comeHome cX5_comeHome 2 none]
def wsL_hours_r6 : List Cond := [Cond.methodLink RX5 208 yX5_letSteamersLeave, Cond.instanceMethod yX5_letSteamersLeave, Cond.selects RX5 yX5_letSteamersLeave yX5_letSteamersLeave, Cond.code yX5_letSteamersLeave cX5_letSteamersLeave 4 (some .int), Cond.fieldLink RX5 259 "CoalHulks$Steamer" "patience" "I", Cond.methodLink RX5 262 yX5_recallLighters, Cond.instanceMethod yX5_recallLighters, Cond.selects RX5 yX5_recallLighters yX5_recallLighters, Cond.code yX5_recallLighters cX5_recallLighters 5 none, Cond.methodLink RX5 269 yX5_recall, Cond.static yX5_recall, Cond.code yX5_recall cX5_recall 2 none, Cond.methodLink RX5 266 yX5_forgetTheLeft, Cond.instanceMethod yX5_forgetTheLeft, Cond.selects RX5 yX5_forgetTheLeft yX5_forgetTheLeft, Cond.code yX5_forgetTheLeft cX5_forgetTheLeft 2 none, Cond.methodLink RX5 106 yX4_hasLeft, Cond.instanceMethod yX4_hasLeft, Cond.selects RX4 yX4_hasLeft yX4_hasLeft, Cond.initialized RX4, Cond.code yX4_hasLeft cX4_hasLeft 1 (some .boolean), Cond.fieldLink RX4 21 "CoalHulks$Steamer" "fate" "I", Cond.methodLink RX5 272 yJx4a65c_remove_915e3, Cond.instanceMethod yJx4a65c_remove_915e3]
def wsL_hours_r7 : List Cond := [Cond.selects RJx4a65c yJx4a65c_remove_915e3 yJx4a65c_remove_915e3, Cond.code yJx4a65c_remove_915e3 cJx4a65c_remove_915e3 4 (some (.object "java/lang/Object")), Cond.methodLink RJx4a65c 144 yJx4a65c_fastRemove_b59b0, Cond.instanceMethod yJx4a65c_fastRemove_b59b0, Cond.selects RJx4a65c yJx4a65c_fastRemove_b59b0 yJx4a65c_fastRemove_b59b0, Cond.code yJx4a65c_fastRemove_b59b0 cJx4a65c_fastRemove_b59b0 4 none, Cond.fieldLink RJx4a65c 63 "java/util/ArrayList" "modCount" "I", Cond.sameField "java/util/ArrayList" "java/util/AbstractList" "modCount" "I", Cond.methodLink RJx4a65c 112 arraycopyName, Cond.native arraycopyName, Cond.static arraycopyName, Cond.initialized "java/lang/System"]
def wsL_hours : List Cond := .codeWith yL_hours cL_hours 4 (some .int) [(0, 9, 12, 13)] :: ((wsL_hours_r1 ++ (wsL_hours_r2 ++ (wsL_hours_r3 ++ (wsL_hours_r4 ++ (wsL_hours_r5 ++ (wsL_hours_r6 ++ wsL_hours_r7)))))) ++ wsX50 ++ wsX00 ++ wsJx4a65c0 ++ wsX40 ++ wsX20 ++ wsX30 ++ wsX10 ++ (vx_atS RX5 174 "java/lang/IllegalArgumentException" ["java/lang/RuntimeException", "java/lang/Exception"]).filter goodWord)
def wsL_coalIn_r1 : List Cond := [Cond.classLink RL 31 "java/lang/IndexOutOfBoundsException", Cond.methodLink RL 43 yX5_coalIn, Cond.instanceMethod yX5_coalIn, Cond.selects RX5 yX5_coalIn yX5_coalIn, Cond.initialized RX5, Cond.code yX5_coalIn cX5_coalIn 2 (some .int), Cond.fieldLink RX5 136 "CoalHulks$Hulk" "coal" "I", Cond.methodLink RX5 124 yX5_findHulk, Cond.instanceMethod yX5_findHulk, Cond.selects RX5 yX5_findHulk yX5_findHulk, Cond.code yX5_findHulk cX5_findHulk 2 (some (.object "CoalHulks$Hulk")), Cond.classLink RX5 188 "java/lang/IndexOutOfBoundsException", Cond.initialized "java/lang/IndexOutOfBoundsException", Cond.fieldLink RX5 10 "CoalHulks" "hulks" "Ljava/util/ArrayList;", Cond.classLink RX5 43 "CoalHulks$Hulk", Cond.methodLink RX5 32 yJx4a65c_size_8abf5, Cond.instanceMethod yJx4a65c_size_8abf5, Cond.selects RJx4a65c yJx4a65c_size_8abf5 yJx4a65c_size_8abf5, Cond.initialized RJx4a65c, Cond.code yJx4a65c_size_8abf5 cJx4a65c_size_8abf5 1 (some .int), Cond.fieldLink RJx4a65c 48 "java/util/ArrayList" "size" "I", Cond.methodLink RX5 62 yJx4a65c_get_915e3, Cond.instanceMethod yJx4a65c_get_915e3, Cond.selects RJx4a65c yJx4a65c_get_915e3 yJx4a65c_get_915e3]
def wsL_coalIn_r2 : List Cond := [Cond.code yJx4a65c_get_915e3 cJx4a65c_get_915e3 2 (some (.object "java/lang/Object")), Cond.methodLink RJx4a65c 118 yJ15_checkIndex_7cf53, Cond.static yJ15_checkIndex_7cf53, Cond.initialized RJ15, Cond.code yJ15_checkIndex_7cf53 cJ15_checkIndex_7cf53 2 (some .int), Cond.methodLink RJ15 105 yJ3_checkIndex_8e157, Cond.static yJ3_checkIndex_8e157, Cond.initialized RJ3, Cond.code yJ3_checkIndex_8e157 cJ3_checkIndex_8e157 3 (some .int), Cond.methodLink RJx4a65c 123 yJx4a65c_elementData_915e3, Cond.instanceMethod yJx4a65c_elementData_915e3, Cond.selects RJx4a65c yJx4a65c_elementData_915e3 yJx4a65c_elementData_915e3, Cond.code yJx4a65c_elementData_915e3 cJx4a65c_elementData_915e3 2 (some (.object "java/lang/Object")), Cond.fieldLink RJx4a65c 9 "java/util/ArrayList" "elementData" "[Ljava/lang/Object;"]
def wsL_coalIn : List Cond := .codeWith yL_coalIn cL_coalIn 4 (some .int) [(0, 9, 12, 31)] :: ((wsL_coalIn_r1 ++ wsL_coalIn_r2) ++ wsX10 ++ wsX50 ++ wsJx4a65c0 ++ (vx_atS RX5 192 "java/lang/IndexOutOfBoundsException" ["java/lang/RuntimeException", "java/lang/Exception"]).filter goodWord)
def wsL_placeOf_r1 : List Cond := [Cond.classLink RL 31 "java/lang/IndexOutOfBoundsException", Cond.methodLink RL 46 yX5_placeOf, Cond.instanceMethod yX5_placeOf, Cond.selects RX5 yX5_placeOf yX5_placeOf, Cond.initialized RX5, Cond.code yX5_placeOf cX5_placeOf 2 (some .int), Cond.fieldLink RX5 148 "CoalHulks$Lighter" "place" "I", Cond.methodLink RX5 86 yX5_findLighter, Cond.instanceMethod yX5_findLighter, Cond.selects RX5 yX5_findLighter yX5_findLighter, Cond.code yX5_findLighter cX5_findLighter 2 (some (.object "CoalHulks$Lighter")), Cond.classLink RX5 188 "java/lang/IndexOutOfBoundsException", Cond.initialized "java/lang/IndexOutOfBoundsException", Cond.fieldLink RX5 16 "CoalHulks" "lighters" "Ljava/util/ArrayList;", Cond.classLink RX5 60 "CoalHulks$Lighter", Cond.methodLink RX5 32 yJx4a65c_size_8abf5, Cond.instanceMethod yJx4a65c_size_8abf5, Cond.selects RJx4a65c yJx4a65c_size_8abf5 yJx4a65c_size_8abf5, Cond.initialized RJx4a65c, Cond.code yJx4a65c_size_8abf5 cJx4a65c_size_8abf5 1 (some .int), Cond.fieldLink RJx4a65c 48 "java/util/ArrayList" "size" "I", Cond.methodLink RX5 62 yJx4a65c_get_915e3, Cond.instanceMethod yJx4a65c_get_915e3, Cond.selects RJx4a65c yJx4a65c_get_915e3 yJx4a65c_get_915e3]
def wsL_placeOf_r2 : List Cond := [Cond.code yJx4a65c_get_915e3 cJx4a65c_get_915e3 2 (some (.object "java/lang/Object")), Cond.methodLink RJx4a65c 118 yJ15_checkIndex_7cf53, Cond.static yJ15_checkIndex_7cf53, Cond.initialized RJ15, Cond.code yJ15_checkIndex_7cf53 cJ15_checkIndex_7cf53 2 (some .int), Cond.methodLink RJ15 105 yJ3_checkIndex_8e157, Cond.static yJ3_checkIndex_8e157, Cond.initialized RJ3, Cond.code yJ3_checkIndex_8e157 cJ3_checkIndex_8e157 3 (some .int), Cond.methodLink RJx4a65c 123 yJx4a65c_elementData_915e3, Cond.instanceMethod yJx4a65c_elementData_915e3, Cond.selects RJx4a65c yJx4a65c_elementData_915e3 yJx4a65c_elementData_915e3, Cond.code yJx4a65c_elementData_915e3 cJx4a65c_elementData_915e3 2 (some (.object "java/lang/Object")), Cond.fieldLink RJx4a65c 9 "java/util/ArrayList" "elementData" "[Ljava/lang/Object;"]
def wsL_placeOf : List Cond := .codeWith yL_placeOf cL_placeOf 4 (some .int) [(0, 9, 12, 31)] :: ((wsL_placeOf_r1 ++ wsL_placeOf_r2) ++ wsX20 ++ wsX50 ++ wsJx4a65c0 ++ (vx_atS RX5 192 "java/lang/IndexOutOfBoundsException" ["java/lang/RuntimeException", "java/lang/Exception"]).filter goodWord)
def wsL_loadOf_r1 : List Cond := [Cond.classLink RL 31 "java/lang/IndexOutOfBoundsException", Cond.methodLink RL 49 yX5_loadOf, Cond.instanceMethod yX5_loadOf, Cond.selects RX5 yX5_loadOf yX5_loadOf, Cond.initialized RX5, Cond.code yX5_loadOf cX5_loadOf 2 (some .int), Cond.fieldLink RX5 151 "CoalHulks$Lighter" "load" "I", Cond.methodLink RX5 86 yX5_findLighter, Cond.instanceMethod yX5_findLighter, Cond.selects RX5 yX5_findLighter yX5_findLighter, Cond.code yX5_findLighter cX5_findLighter 2 (some (.object "CoalHulks$Lighter")), Cond.classLink RX5 188 "java/lang/IndexOutOfBoundsException", Cond.initialized "java/lang/IndexOutOfBoundsException", Cond.fieldLink RX5 16 "CoalHulks" "lighters" "Ljava/util/ArrayList;", Cond.classLink RX5 60 "CoalHulks$Lighter", Cond.methodLink RX5 32 yJx4a65c_size_8abf5, Cond.instanceMethod yJx4a65c_size_8abf5, Cond.selects RJx4a65c yJx4a65c_size_8abf5 yJx4a65c_size_8abf5, Cond.initialized RJx4a65c, Cond.code yJx4a65c_size_8abf5 cJx4a65c_size_8abf5 1 (some .int), Cond.fieldLink RJx4a65c 48 "java/util/ArrayList" "size" "I", Cond.methodLink RX5 62 yJx4a65c_get_915e3, Cond.instanceMethod yJx4a65c_get_915e3, Cond.selects RJx4a65c yJx4a65c_get_915e3 yJx4a65c_get_915e3]
def wsL_loadOf_r2 : List Cond := [Cond.code yJx4a65c_get_915e3 cJx4a65c_get_915e3 2 (some (.object "java/lang/Object")), Cond.methodLink RJx4a65c 118 yJ15_checkIndex_7cf53, Cond.static yJ15_checkIndex_7cf53, Cond.initialized RJ15, Cond.code yJ15_checkIndex_7cf53 cJ15_checkIndex_7cf53 2 (some .int), Cond.methodLink RJ15 105 yJ3_checkIndex_8e157, Cond.static yJ3_checkIndex_8e157, Cond.initialized RJ3, Cond.code yJ3_checkIndex_8e157 cJ3_checkIndex_8e157 3 (some .int), Cond.methodLink RJx4a65c 123 yJx4a65c_elementData_915e3, Cond.instanceMethod yJx4a65c_elementData_915e3, Cond.selects RJx4a65c yJx4a65c_elementData_915e3 yJx4a65c_elementData_915e3, Cond.code yJx4a65c_elementData_915e3 cJx4a65c_elementData_915e3 2 (some (.object "java/lang/Object")), Cond.fieldLink RJx4a65c 9 "java/util/ArrayList" "elementData" "[Ljava/lang/Object;"]
def wsL_loadOf : List Cond := .codeWith yL_loadOf cL_loadOf 4 (some .int) [(0, 9, 12, 31)] :: ((wsL_loadOf_r1 ++ wsL_loadOf_r2) ++ wsX20 ++ wsX50 ++ wsJx4a65c0 ++ (vx_atS RX5 192 "java/lang/IndexOutOfBoundsException" ["java/lang/RuntimeException", "java/lang/Exception"]).filter goodWord)
def wsL_dustIn_r1 : List Cond := [Cond.classLink RL 31 "java/lang/IndexOutOfBoundsException", Cond.methodLink RL 52 yX5_dustIn, Cond.instanceMethod yX5_dustIn, Cond.selects RX5 yX5_dustIn yX5_dustIn, Cond.initialized RX5, Cond.code yX5_dustIn cX5_dustIn 2 (some .int), Cond.fieldLink RX5 132 "CoalHulks$Lighter" "dust" "I", Cond.methodLink RX5 86 yX5_findLighter, Cond.instanceMethod yX5_findLighter, Cond.selects RX5 yX5_findLighter yX5_findLighter, Cond.code yX5_findLighter cX5_findLighter 2 (some (.object "CoalHulks$Lighter")), Cond.classLink RX5 188 "java/lang/IndexOutOfBoundsException", Cond.initialized "java/lang/IndexOutOfBoundsException", Cond.fieldLink RX5 16 "CoalHulks" "lighters" "Ljava/util/ArrayList;", Cond.classLink RX5 60 "CoalHulks$Lighter", Cond.methodLink RX5 32 yJx4a65c_size_8abf5, Cond.instanceMethod yJx4a65c_size_8abf5, Cond.selects RJx4a65c yJx4a65c_size_8abf5 yJx4a65c_size_8abf5, Cond.initialized RJx4a65c, Cond.code yJx4a65c_size_8abf5 cJx4a65c_size_8abf5 1 (some .int), Cond.fieldLink RJx4a65c 48 "java/util/ArrayList" "size" "I", Cond.methodLink RX5 62 yJx4a65c_get_915e3, Cond.instanceMethod yJx4a65c_get_915e3, Cond.selects RJx4a65c yJx4a65c_get_915e3 yJx4a65c_get_915e3]
def wsL_dustIn_r2 : List Cond := [Cond.code yJx4a65c_get_915e3 cJx4a65c_get_915e3 2 (some (.object "java/lang/Object")), Cond.methodLink RJx4a65c 118 yJ15_checkIndex_7cf53, Cond.static yJ15_checkIndex_7cf53, Cond.initialized RJ15, Cond.code yJ15_checkIndex_7cf53 cJ15_checkIndex_7cf53 2 (some .int), Cond.methodLink RJ15 105 yJ3_checkIndex_8e157, Cond.static yJ3_checkIndex_8e157, Cond.initialized RJ3, Cond.code yJ3_checkIndex_8e157 cJ3_checkIndex_8e157 3 (some .int), Cond.methodLink RJx4a65c 123 yJx4a65c_elementData_915e3, Cond.instanceMethod yJx4a65c_elementData_915e3, Cond.selects RJx4a65c yJx4a65c_elementData_915e3 yJx4a65c_elementData_915e3, Cond.code yJx4a65c_elementData_915e3 cJx4a65c_elementData_915e3 2 (some (.object "java/lang/Object")), Cond.fieldLink RJx4a65c 9 "java/util/ArrayList" "elementData" "[Ljava/lang/Object;"]
def wsL_dustIn : List Cond := .codeWith yL_dustIn cL_dustIn 4 (some .int) [(0, 9, 12, 31)] :: ((wsL_dustIn_r1 ++ wsL_dustIn_r2) ++ wsX20 ++ wsX50 ++ wsJx4a65c0 ++ (vx_atS RX5 192 "java/lang/IndexOutOfBoundsException" ["java/lang/RuntimeException", "java/lang/Exception"]).filter goodWord)
def wsL_gangOn_r1 : List Cond := [Cond.classLink RL 31 "java/lang/IndexOutOfBoundsException", Cond.methodLink RL 55 yX5_gangOn, Cond.instanceMethod yX5_gangOn, Cond.selects RX5 yX5_gangOn yX5_gangOn, Cond.initialized RX5, Cond.code yX5_gangOn cX5_gangOn 3 (some .int), Cond.fieldLink RX5 116 "CoalHulks$Lighter" "task" "LCoalHulks$Order;", Cond.fieldLink RX5 154 "CoalHulks$Order" "shovellers" "LCoalHulks$Gang;", Cond.fieldLink RX5 158 "CoalHulks$Gang" "number" "I", Cond.methodLink RX5 86 yX5_findLighter, Cond.instanceMethod yX5_findLighter, Cond.selects RX5 yX5_findLighter yX5_findLighter, Cond.code yX5_findLighter cX5_findLighter 2 (some (.object "CoalHulks$Lighter")), Cond.classLink RX5 188 "java/lang/IndexOutOfBoundsException", Cond.initialized "java/lang/IndexOutOfBoundsException", Cond.fieldLink RX5 16 "CoalHulks" "lighters" "Ljava/util/ArrayList;", Cond.classLink RX5 60 "CoalHulks$Lighter", Cond.methodLink RX5 32 yJx4a65c_size_8abf5, Cond.instanceMethod yJx4a65c_size_8abf5, Cond.selects RJx4a65c yJx4a65c_size_8abf5 yJx4a65c_size_8abf5, Cond.initialized RJx4a65c, Cond.code yJx4a65c_size_8abf5 cJx4a65c_size_8abf5 1 (some .int), Cond.fieldLink RJx4a65c 48 "java/util/ArrayList" "size" "I", Cond.methodLink RX5 62 yJx4a65c_get_915e3]
def wsL_gangOn_r2 : List Cond := [Cond.instanceMethod yJx4a65c_get_915e3, Cond.selects RJx4a65c yJx4a65c_get_915e3 yJx4a65c_get_915e3, Cond.code yJx4a65c_get_915e3 cJx4a65c_get_915e3 2 (some (.object "java/lang/Object")), Cond.methodLink RJx4a65c 118 yJ15_checkIndex_7cf53, Cond.static yJ15_checkIndex_7cf53, Cond.initialized RJ15, Cond.code yJ15_checkIndex_7cf53 cJ15_checkIndex_7cf53 2 (some .int), Cond.methodLink RJ15 105 yJ3_checkIndex_8e157, Cond.static yJ3_checkIndex_8e157, Cond.initialized RJ3, Cond.code yJ3_checkIndex_8e157 cJ3_checkIndex_8e157 3 (some .int), Cond.methodLink RJx4a65c 123 yJx4a65c_elementData_915e3, Cond.instanceMethod yJx4a65c_elementData_915e3, Cond.selects RJx4a65c yJx4a65c_elementData_915e3 yJx4a65c_elementData_915e3, Cond.code yJx4a65c_elementData_915e3 cJx4a65c_elementData_915e3 2 (some (.object "java/lang/Object")), Cond.fieldLink RJx4a65c 9 "java/util/ArrayList" "elementData" "[Ljava/lang/Object;"]
def wsL_gangOn : List Cond := .codeWith yL_gangOn cL_gangOn 4 (some .int) [(0, 9, 12, 31)] :: ((wsL_gangOn_r1 ++ wsL_gangOn_r2) ++ wsX20 ++ wsX30 ++ wsX00 ++ wsX50 ++ wsJx4a65c0 ++ (vx_atS RX5 192 "java/lang/IndexOutOfBoundsException" ["java/lang/RuntimeException", "java/lang/Exception"]).filter goodWord)
def wsL_restOf_r1 : List Cond := [Cond.classLink RL 31 "java/lang/IndexOutOfBoundsException", Cond.methodLink RL 58 yX5_restOf, Cond.instanceMethod yX5_restOf, Cond.selects RX5 yX5_restOf yX5_restOf, Cond.initialized RX5, Cond.code yX5_restOf cX5_restOf 2 (some .int), Cond.fieldLink RX5 161 "CoalHulks$Gang" "rest" "I", Cond.methodLink RX5 90 yX5_findGang, Cond.instanceMethod yX5_findGang, Cond.selects RX5 yX5_findGang yX5_findGang, Cond.code yX5_findGang cX5_findGang 2 (some (.object "CoalHulks$Gang")), Cond.classLink RX5 188 "java/lang/IndexOutOfBoundsException", Cond.initialized "java/lang/IndexOutOfBoundsException", Cond.fieldLink RX5 19 "CoalHulks" "gangs" "Ljava/util/ArrayList;", Cond.classLink RX5 71 "CoalHulks$Gang", Cond.methodLink RX5 32 yJx4a65c_size_8abf5, Cond.instanceMethod yJx4a65c_size_8abf5, Cond.selects RJx4a65c yJx4a65c_size_8abf5 yJx4a65c_size_8abf5, Cond.initialized RJx4a65c, Cond.code yJx4a65c_size_8abf5 cJx4a65c_size_8abf5 1 (some .int), Cond.fieldLink RJx4a65c 48 "java/util/ArrayList" "size" "I", Cond.methodLink RX5 62 yJx4a65c_get_915e3, Cond.instanceMethod yJx4a65c_get_915e3, Cond.selects RJx4a65c yJx4a65c_get_915e3 yJx4a65c_get_915e3]
def wsL_restOf_r2 : List Cond := [Cond.code yJx4a65c_get_915e3 cJx4a65c_get_915e3 2 (some (.object "java/lang/Object")), Cond.methodLink RJx4a65c 118 yJ15_checkIndex_7cf53, Cond.static yJ15_checkIndex_7cf53, Cond.initialized RJ15, Cond.code yJ15_checkIndex_7cf53 cJ15_checkIndex_7cf53 2 (some .int), Cond.methodLink RJ15 105 yJ3_checkIndex_8e157, Cond.static yJ3_checkIndex_8e157, Cond.initialized RJ3, Cond.code yJ3_checkIndex_8e157 cJ3_checkIndex_8e157 3 (some .int), Cond.methodLink RJx4a65c 123 yJx4a65c_elementData_915e3, Cond.instanceMethod yJx4a65c_elementData_915e3, Cond.selects RJx4a65c yJx4a65c_elementData_915e3 yJx4a65c_elementData_915e3, Cond.code yJx4a65c_elementData_915e3 cJx4a65c_elementData_915e3 2 (some (.object "java/lang/Object")), Cond.fieldLink RJx4a65c 9 "java/util/ArrayList" "elementData" "[Ljava/lang/Object;"]
def wsL_restOf : List Cond := .codeWith yL_restOf cL_restOf 4 (some .int) [(0, 9, 12, 31)] :: ((wsL_restOf_r1 ++ wsL_restOf_r2) ++ wsX00 ++ wsX50 ++ wsJx4a65c0 ++ (vx_atS RX5 192 "java/lang/IndexOutOfBoundsException" ["java/lang/RuntimeException", "java/lang/Exception"]).filter goodWord)
def wsL_fateOf_r1 : List Cond := [Cond.classLink RL 31 "java/lang/IndexOutOfBoundsException", Cond.methodLink RL 61 yX5_fateOf, Cond.instanceMethod yX5_fateOf, Cond.selects RX5 yX5_fateOf yX5_fateOf, Cond.initialized RX5, Cond.code yX5_fateOf cX5_fateOf 2 (some .int), Cond.fieldLink RX5 164 "CoalHulks$Steamer" "fate" "I", Cond.methodLink RX5 94 yX5_findSteamer, Cond.instanceMethod yX5_findSteamer, Cond.selects RX5 yX5_findSteamer yX5_findSteamer, Cond.code yX5_findSteamer cX5_findSteamer 2 (some (.object "CoalHulks$Steamer")), Cond.classLink RX5 188 "java/lang/IndexOutOfBoundsException", Cond.initialized "java/lang/IndexOutOfBoundsException", Cond.fieldLink RX5 22 "CoalHulks" "steamers" "Ljava/util/ArrayList;", Cond.classLink RX5 82 "CoalHulks$Steamer", Cond.methodLink RX5 32 yJx4a65c_size_8abf5, Cond.instanceMethod yJx4a65c_size_8abf5, Cond.selects RJx4a65c yJx4a65c_size_8abf5 yJx4a65c_size_8abf5, Cond.initialized RJx4a65c, Cond.code yJx4a65c_size_8abf5 cJx4a65c_size_8abf5 1 (some .int), Cond.fieldLink RJx4a65c 48 "java/util/ArrayList" "size" "I", Cond.methodLink RX5 62 yJx4a65c_get_915e3, Cond.instanceMethod yJx4a65c_get_915e3, Cond.selects RJx4a65c yJx4a65c_get_915e3 yJx4a65c_get_915e3]
def wsL_fateOf_r2 : List Cond := [Cond.code yJx4a65c_get_915e3 cJx4a65c_get_915e3 2 (some (.object "java/lang/Object")), Cond.methodLink RJx4a65c 118 yJ15_checkIndex_7cf53, Cond.static yJ15_checkIndex_7cf53, Cond.initialized RJ15, Cond.code yJ15_checkIndex_7cf53 cJ15_checkIndex_7cf53 2 (some .int), Cond.methodLink RJ15 105 yJ3_checkIndex_8e157, Cond.static yJ3_checkIndex_8e157, Cond.initialized RJ3, Cond.code yJ3_checkIndex_8e157 cJ3_checkIndex_8e157 3 (some .int), Cond.methodLink RJx4a65c 123 yJx4a65c_elementData_915e3, Cond.instanceMethod yJx4a65c_elementData_915e3, Cond.selects RJx4a65c yJx4a65c_elementData_915e3 yJx4a65c_elementData_915e3, Cond.code yJx4a65c_elementData_915e3 cJx4a65c_elementData_915e3 2 (some (.object "java/lang/Object")), Cond.fieldLink RJx4a65c 9 "java/util/ArrayList" "elementData" "[Ljava/lang/Object;"]
def wsL_fateOf : List Cond := .codeWith yL_fateOf cL_fateOf 4 (some .int) [(0, 9, 12, 31)] :: ((wsL_fateOf_r1 ++ wsL_fateOf_r2) ++ wsX40 ++ wsX50 ++ wsJx4a65c0 ++ (vx_atS RX5 192 "java/lang/IndexOutOfBoundsException" ["java/lang/RuntimeException", "java/lang/Exception"]).filter goodWord)
def wsL_wantOf_r1 : List Cond := [Cond.classLink RL 31 "java/lang/IndexOutOfBoundsException", Cond.methodLink RL 64 yX5_wantOf, Cond.instanceMethod yX5_wantOf, Cond.selects RX5 yX5_wantOf yX5_wantOf, Cond.initialized RX5, Cond.code yX5_wantOf cX5_wantOf 2 (some .int), Cond.fieldLink RX5 167 "CoalHulks$Steamer" "want" "I", Cond.methodLink RX5 94 yX5_findSteamer, Cond.instanceMethod yX5_findSteamer, Cond.selects RX5 yX5_findSteamer yX5_findSteamer, Cond.code yX5_findSteamer cX5_findSteamer 2 (some (.object "CoalHulks$Steamer")), Cond.classLink RX5 188 "java/lang/IndexOutOfBoundsException", Cond.initialized "java/lang/IndexOutOfBoundsException", Cond.fieldLink RX5 22 "CoalHulks" "steamers" "Ljava/util/ArrayList;", Cond.classLink RX5 82 "CoalHulks$Steamer", Cond.methodLink RX5 32 yJx4a65c_size_8abf5, Cond.instanceMethod yJx4a65c_size_8abf5, Cond.selects RJx4a65c yJx4a65c_size_8abf5 yJx4a65c_size_8abf5, Cond.initialized RJx4a65c, Cond.code yJx4a65c_size_8abf5 cJx4a65c_size_8abf5 1 (some .int), Cond.fieldLink RJx4a65c 48 "java/util/ArrayList" "size" "I", Cond.methodLink RX5 62 yJx4a65c_get_915e3, Cond.instanceMethod yJx4a65c_get_915e3, Cond.selects RJx4a65c yJx4a65c_get_915e3 yJx4a65c_get_915e3]
def wsL_wantOf_r2 : List Cond := [Cond.code yJx4a65c_get_915e3 cJx4a65c_get_915e3 2 (some (.object "java/lang/Object")), Cond.methodLink RJx4a65c 118 yJ15_checkIndex_7cf53, Cond.static yJ15_checkIndex_7cf53, Cond.initialized RJ15, Cond.code yJ15_checkIndex_7cf53 cJ15_checkIndex_7cf53 2 (some .int), Cond.methodLink RJ15 105 yJ3_checkIndex_8e157, Cond.static yJ3_checkIndex_8e157, Cond.initialized RJ3, Cond.code yJ3_checkIndex_8e157 cJ3_checkIndex_8e157 3 (some .int), Cond.methodLink RJx4a65c 123 yJx4a65c_elementData_915e3, Cond.instanceMethod yJx4a65c_elementData_915e3, Cond.selects RJx4a65c yJx4a65c_elementData_915e3 yJx4a65c_elementData_915e3, Cond.code yJx4a65c_elementData_915e3 cJx4a65c_elementData_915e3 2 (some (.object "java/lang/Object")), Cond.fieldLink RJx4a65c 9 "java/util/ArrayList" "elementData" "[Ljava/lang/Object;"]
def wsL_wantOf : List Cond := .codeWith yL_wantOf cL_wantOf 4 (some .int) [(0, 9, 12, 31)] :: ((wsL_wantOf_r1 ++ wsL_wantOf_r2) ++ wsX40 ++ wsX50 ++ wsJx4a65c0 ++ (vx_atS RX5 192 "java/lang/IndexOutOfBoundsException" ["java/lang/RuntimeException", "java/lang/Exception"]).filter goodWord)
def wsL_outside_r1 : List Cond := [Cond.classLink RL 13 "java/lang/IllegalArgumentException", Cond.methodLink RL 67 yX5_outside, Cond.instanceMethod yX5_outside, Cond.selects RX5 yX5_outside yX5_outside, Cond.initialized RX5, Cond.code yX5_outside cX5_outside 5 (some .int), Cond.classLink RX5 170 "java/lang/IllegalArgumentException", Cond.initialized "java/lang/IllegalArgumentException", Cond.fieldLink RX5 25 "CoalHulks" "present" "Ljava/util/ArrayList;", Cond.classLink RX5 82 "CoalHulks$Steamer", Cond.fieldLink RX5 164 "CoalHulks$Steamer" "fate" "I", Cond.fieldLink RX5 175 "CoalHulks$Steamer" "number" "I", Cond.methodLink RX5 32 yJx4a65c_size_8abf5, Cond.instanceMethod yJx4a65c_size_8abf5, Cond.selects RJx4a65c yJx4a65c_size_8abf5 yJx4a65c_size_8abf5, Cond.initialized RJx4a65c, Cond.code yJx4a65c_size_8abf5 cJx4a65c_size_8abf5 1 (some .int), Cond.fieldLink RJx4a65c 48 "java/util/ArrayList" "size" "I", Cond.methodLink RX5 62 yJx4a65c_get_915e3, Cond.instanceMethod yJx4a65c_get_915e3, Cond.selects RJx4a65c yJx4a65c_get_915e3 yJx4a65c_get_915e3, Cond.code yJx4a65c_get_915e3 cJx4a65c_get_915e3 2 (some (.object "java/lang/Object")), Cond.methodLink RJx4a65c 118 yJ15_checkIndex_7cf53, Cond.static yJ15_checkIndex_7cf53]
def wsL_outside_r2 : List Cond := [Cond.initialized RJ15, Cond.code yJ15_checkIndex_7cf53 cJ15_checkIndex_7cf53 2 (some .int), Cond.methodLink RJ15 105 yJ3_checkIndex_8e157, Cond.static yJ3_checkIndex_8e157, Cond.initialized RJ3, Cond.code yJ3_checkIndex_8e157 cJ3_checkIndex_8e157 3 (some .int), Cond.methodLink RJx4a65c 123 yJx4a65c_elementData_915e3, Cond.instanceMethod yJx4a65c_elementData_915e3, Cond.selects RJx4a65c yJx4a65c_elementData_915e3 yJx4a65c_elementData_915e3, Cond.code yJx4a65c_elementData_915e3 cJx4a65c_elementData_915e3 2 (some (.object "java/lang/Object")), Cond.fieldLink RJx4a65c 9 "java/util/ArrayList" "elementData" "[Ljava/lang/Object;"]
def wsL_outside : List Cond := .codeWith yL_outside cL_outside 4 (some .int) [(0, 9, 12, 13)] :: ((wsL_outside_r1 ++ wsL_outside_r2) ++ wsX50 ++ wsX40 ++ wsJx4a65c0 ++ (vx_atS RX5 174 "java/lang/IllegalArgumentException" ["java/lang/RuntimeException", "java/lang/Exception"]).filter goodWord)
def wsL_law0_r1 : List Cond := [Cond.classLink RL 8 RX5, Cond.instantiable RX5 7, Cond.initialized RX5, Cond.classLink RL 71 RX6, Cond.instantiable RX6 22, Cond.initialized RX6, Cond.arrayClass .long, Cond.methodLink RL 70 yX5_init, Cond.instanceMethod yX5_init, Cond.code yX5_init cX5_init 1 none, Cond.methodLink RX5 1 objectInit, Cond.instanceMethod objectInit, Cond.code objectInit ⟨#[0xb1]⟩ 1 none, Cond.classLink RX5 7 RJx4a65c, Cond.instantiable RJx4a65c 3, Cond.initialized RJx4a65c, Cond.fieldLink RX5 10 "CoalHulks" "hulks" "Ljava/util/ArrayList;", Cond.fieldLink RX5 16 "CoalHulks" "lighters" "Ljava/util/ArrayList;", Cond.fieldLink RX5 19 "CoalHulks" "gangs" "Ljava/util/ArrayList;", Cond.fieldLink RX5 22 "CoalHulks" "steamers" "Ljava/util/ArrayList;", Cond.fieldLink RX5 25 "CoalHulks" "present" "Ljava/util/ArrayList;", Cond.methodLink RX5 9 yJx4a65c_init_da8c8, Cond.instanceMethod yJx4a65c_init_da8c8, Cond.code yJx4a65c_init_da8c8 cJx4a65c_init_da8c8 1 none]
def wsL_law0_r2 : List Cond := [Cond.fieldLink RJx4a65c 39 "java/util/ArrayList" "DEFAULTCAPACITY_EMPTY_ELEMENTDATA" "[Ljava/lang/Object;", Cond.fieldLink RJx4a65c 9 "java/util/ArrayList" "elementData" "[Ljava/lang/Object;", Cond.methodLink RJx4a65c 1 yJxc12de_init_da8c8, Cond.instanceMethod yJxc12de_init_da8c8, Cond.initialized RJxc12de, Cond.code yJxc12de_init_da8c8 cJxc12de_init_da8c8 1 none, Cond.fieldLink RJxc12de 7 "java/util/AbstractList" "modCount" "I", Cond.methodLink RJxc12de 1 yJxa1e45_init_da8c8, Cond.instanceMethod yJxa1e45_init_da8c8, Cond.initialized RJxa1e45, Cond.code yJxa1e45_init_da8c8 cJxa1e45_init_da8c8 1 none, Cond.methodLink RJxa1e45 1 objectInit, Cond.methodLink RL 73 yX6_init, Cond.instanceMethod yX6_init, Cond.code yX6_init cX6_init 1 none, Cond.methodLink RX6 1 objectInit, Cond.arrayClass .int, Cond.fieldLink RX6 7 "CoalHulksModel" "coal" "[I", Cond.fieldLink RX6 13 "CoalHulksModel" "hold" "[I", Cond.fieldLink RX6 16 "CoalHulksModel" "load" "[I", Cond.fieldLink RX6 19 "CoalHulksModel" "dust" "[I", Cond.fieldLink RX6 22 "CoalHulksModel" "place" "[I", Cond.fieldLink RX6 25 "CoalHulksModel" "home" "[I", Cond.fieldLink RX6 28 "CoalHulksModel" "crew" "[I"]
def wsL_law0_r3 : List Cond := [Cond.fieldLink RX6 31 "CoalHulksModel" "bound" "[I", Cond.fieldLink RX6 34 "CoalHulksModel" "way" "[I", Cond.fieldLink RX6 37 "CoalHulksModel" "men" "[I", Cond.fieldLink RX6 40 "CoalHulksModel" "counts" "[I", Cond.fieldLink RX6 43 "CoalHulksModel" "rest" "[I", Cond.fieldLink RX6 46 "CoalHulksModel" "want" "[I", Cond.fieldLink RX6 49 "CoalHulksModel" "last" "[I", Cond.fieldLink RX6 52 "CoalHulksModel" "fate" "[I", Cond.methodLink RL 74 yL_hulk, Cond.static yL_hulk, Cond.initialized RL, Cond.codeWith yL_hulk cL_hulk 4 (some .int) [(0, 9, 12, 13), (0, 9, 15, 15)], Cond.classLink RL 13 "java/lang/IllegalArgumentException", Cond.classLink RL 15 "java/lang/IllegalStateException", Cond.methodLink RL 7 yX5_hulk, Cond.instanceMethod yX5_hulk, Cond.selects RX5 yX5_hulk yX5_hulk, Cond.code yX5_hulk cX5_hulk 3 (some .int), Cond.classLink RX5 36 "java/lang/IllegalStateException", Cond.initialized "java/lang/IllegalStateException", Cond.classLink RX5 43 RX1, Cond.instantiable RX1 1, Cond.initialized RX1, Cond.methodLink RX5 28 yX5_refuseOutOfRange]
def wsL_law0_r4 : List Cond := [Cond.static yX5_refuseOutOfRange, Cond.code yX5_refuseOutOfRange cX5_refuseOutOfRange 3 none, Cond.classLink RX5 170 "java/lang/IllegalArgumentException", Cond.initialized "java/lang/IllegalArgumentException", Cond.methodLink RX5 32 yJx4a65c_size_8abf5, Cond.instanceMethod yJx4a65c_size_8abf5, Cond.selects RJx4a65c yJx4a65c_size_8abf5 yJx4a65c_size_8abf5, Cond.code yJx4a65c_size_8abf5 cJx4a65c_size_8abf5 1 (some .int), Cond.fieldLink RJx4a65c 48 "java/util/ArrayList" "size" "I", Cond.methodLink RX5 45 yX1_init, Cond.instanceMethod yX1_init, Cond.code yX1_init cX1_init 2 none, Cond.methodLink RX1 1 objectInit, Cond.fieldLink RX1 7 "CoalHulks$Hulk" "coal" "I", Cond.methodLink RX5 48 yJx4a65c_add_9ea2d, Cond.instanceMethod yJx4a65c_add_9ea2d, Cond.selects RJx4a65c yJx4a65c_add_9ea2d yJx4a65c_add_9ea2d, Cond.code yJx4a65c_add_9ea2d cJx4a65c_add_9ea2d 2 (some .boolean), Cond.fieldLink RJx4a65c 63 "java/util/ArrayList" "modCount" "I", Cond.sameField "java/util/ArrayList" "java/util/AbstractList" "modCount" "I", Cond.methodLink RJx4a65c 131 yJx4a65c_add_72be8, Cond.instanceMethod yJx4a65c_add_72be8, Cond.selects RJx4a65c yJx4a65c_add_72be8 yJx4a65c_add_72be8, Cond.code yJx4a65c_add_72be8 cJx4a65c_add_72be8 4 none]
def wsL_law0_r5 : List Cond := [Cond.methodLink RJx4a65c 129 yJx4a65c_grow_d5877, Cond.instanceMethod yJx4a65c_grow_d5877, Cond.selects RJx4a65c yJx4a65c_grow_d5877 yJx4a65c_grow_d5877, Cond.code yJx4a65c_grow_d5877 cJx4a65c_grow_d5877 1 (some (.array (.object "java/lang/Object"))), Cond.methodLink RJx4a65c 69 yJx4a65c_grow_92f84, Cond.instanceMethod yJx4a65c_grow_92f84, Cond.selects RJx4a65c yJx4a65c_grow_92f84 yJx4a65c_grow_92f84, Cond.code yJx4a65c_grow_92f84 cJx4a65c_grow_92f84 4 (some (.array (.object "java/lang/Object"))), Cond.methodLink RJx4a65c 79 Lib.Math.max.name, Cond.static Lib.Math.max.name, Cond.initialized "java/lang/Math", Cond.code Lib.Math.max.name Lib.Math.max.code 2 (some .int), Cond.classLink RJx4a65c 7 "java/lang/Object", Cond.methodLink RJx4a65c 73 yJ8_newLength_cabcc, Cond.static yJ8_newLength_cabcc, Cond.initialized RJ8, Cond.code yJ8_newLength_cabcc cJ8_newLength_cabcc 4 (some .int), Cond.methodLink RJ8 194 Lib.Math.max.name, Cond.constant RJ8 200 (2147483639), Cond.methodLink RJ8 201 yJ8_hugeLength_7cf53, Cond.static yJ8_hugeLength_7cf53, Cond.code yJ8_hugeLength_7cf53 cJ8_hugeLength_7cf53 3 (some .int), Cond.methodLink RJx4a65c 66 yJ7_copyOf_1904c, Cond.static yJ7_copyOf_1904c]
def wsL_law0_r6 : List Cond := [Cond.initialized RJ7, Cond.code yJ7_copyOf_1904c cJ7_copyOf_1904c 2 (some (.array (.object "java/lang/Object"))), Cond.methodLink RJ7 86 ⟨"java/lang/Object", "getClass", "()Ljava/lang/Class;"⟩, Cond.selects "[Ljava/lang/Object;" ⟨"java/lang/Object", "getClass", "()Ljava/lang/Class;"⟩ ⟨"java/lang/Object", "getClass", "()Ljava/lang/Class;"⟩, Cond.instanceMethod ⟨"java/lang/Object", "getClass", "()Ljava/lang/Class;"⟩, Cond.native ⟨"java/lang/Object", "getClass", "()Ljava/lang/Class;"⟩, Cond.methodLink RJ7 300 yJ7_copyOf_6403c, Cond.static yJ7_copyOf_6403c, Cond.code yJ7_copyOf_6403c cJ7_copyOf_6403c 4 (some (.array (.object "java/lang/Object"))), Cond.classLink RJ7 110 "[Ljava/lang/Object;", Cond.classLink RJ7 2 "java/lang/Object", Cond.methodLink RJ7 304 Lib.Math.min.name, Cond.static Lib.Math.min.name, Cond.code Lib.Math.min.name Lib.Math.min.code 2 (some .int), Cond.methodLink RJ7 150 arraycopyName, Cond.native arraycopyName, Cond.static arraycopyName, Cond.initialized "java/lang/System", Cond.methodLink RL 79 yX6_hulk, Cond.instanceMethod yX6_hulk, Cond.selects RX6 yX6_hulk yX6_hulk, Cond.code yX6_hulk cX6_hulk 2 (some .int), Cond.fieldLink RX6 62 "CoalHulksModel" "hulks" "I", Cond.fieldLink RX6 55 "CoalHulksModel" "thrown" "I"]
def wsL_law0_r7 : List Cond := [Cond.methodLink RL 80 yX6_thrown, Cond.instanceMethod yX6_thrown, Cond.selects RX6 yX6_thrown yX6_thrown, Cond.code yX6_thrown cX6_thrown 1 (some .int), Cond.methodLink RL 84 yL_lighter, Cond.static yL_lighter, Cond.codeWith yL_lighter cL_lighter 4 (some .int) [(0, 9, 12, 13), (0, 9, 15, 15)], Cond.methodLink RL 17 yX5_lighter, Cond.instanceMethod yX5_lighter, Cond.selects RX5 yX5_lighter yX5_lighter, Cond.code yX5_lighter cX5_lighter 3 (some .int), Cond.classLink RX5 60 RX2, Cond.instantiable RX2 7, Cond.initialized RX2, Cond.classLink RX5 43 "CoalHulks$Hulk", Cond.methodLink RX5 54 yJx4a65c_isEmpty_aae02, Cond.instanceMethod yJx4a65c_isEmpty_aae02, Cond.selects RJx4a65c yJx4a65c_isEmpty_aae02 yJx4a65c_isEmpty_aae02, Cond.code yJx4a65c_isEmpty_aae02 cJx4a65c_isEmpty_aae02 1 (some .boolean), Cond.methodLink RX5 62 yJx4a65c_get_915e3, Cond.instanceMethod yJx4a65c_get_915e3, Cond.selects RJx4a65c yJx4a65c_get_915e3 yJx4a65c_get_915e3, Cond.code yJx4a65c_get_915e3 cJx4a65c_get_915e3 2 (some (.object "java/lang/Object")), Cond.methodLink RJx4a65c 118 yJ15_checkIndex_7cf53]
def wsL_law0_r8 : List Cond := [Cond.static yJ15_checkIndex_7cf53, Cond.initialized RJ15, Cond.code yJ15_checkIndex_7cf53 cJ15_checkIndex_7cf53 2 (some .int), Cond.methodLink RJ15 105 yJ3_checkIndex_8e157, Cond.static yJ3_checkIndex_8e157, Cond.initialized RJ3, Cond.code yJ3_checkIndex_8e157 cJ3_checkIndex_8e157 3 (some .int), Cond.methodLink RJx4a65c 123 yJx4a65c_elementData_915e3, Cond.instanceMethod yJx4a65c_elementData_915e3, Cond.selects RJx4a65c yJx4a65c_elementData_915e3 yJx4a65c_elementData_915e3, Cond.code yJx4a65c_elementData_915e3 cJx4a65c_elementData_915e3 2 (some (.object "java/lang/Object")), Cond.methodLink RX5 66 yX2_init, Cond.instanceMethod yX2_init, Cond.code yX2_init cX2_init 3 none, Cond.methodLink RX2 3 objectInit, Cond.fieldLink RX2 9 "CoalHulks$Lighter" "hold" "I", Cond.fieldLink RX2 15 "CoalHulks$Lighter" "home" "LCoalHulks$Hulk;", Cond.fieldLink RX2 19 "CoalHulks$Lighter" "place" "I", Cond.methodLink RL 86 yX6_lighter, Cond.instanceMethod yX6_lighter, Cond.selects RX6 yX6_lighter yX6_lighter, Cond.code yX6_lighter cX6_lighter 2 (some .int), Cond.fieldLink RX6 65 "CoalHulksModel" "lighters" "I", Cond.methodLink RL 87 yL_gang]
def wsL_law0_r9 : List Cond := [Cond.static yL_gang, Cond.codeWith yL_gang cL_gang 4 (some .int) [(0, 9, 12, 13), (0, 9, 15, 15)], Cond.methodLink RL 20 yX5_gang, Cond.instanceMethod yX5_gang, Cond.selects RX5 yX5_gang yX5_gang, Cond.code yX5_gang cX5_gang 3 (some .int), Cond.classLink RX5 71 RX0, Cond.instantiable RX0 5, Cond.initialized RX0, Cond.methodLink RX5 73 yX0_init, Cond.instanceMethod yX0_init, Cond.code yX0_init cX0_init 3 none, Cond.methodLink RX0 3 objectInit, Cond.fieldLink RX0 9 "CoalHulks$Gang" "number" "I", Cond.fieldLink RX0 15 "CoalHulks$Gang" "men" "I", Cond.methodLink RL 89 yX6_gang, Cond.instanceMethod yX6_gang, Cond.selects RX6 yX6_gang yX6_gang, Cond.code yX6_gang cX6_gang 2 (some .int), Cond.fieldLink RX6 68 "CoalHulksModel" "gangs" "I", Cond.methodLink RL 90 yL_steamer, Cond.static yL_steamer, Cond.codeWith yL_steamer cL_steamer 5 (some .int) [(0, 10, 13, 13), (0, 10, 17, 15)], Cond.methodLink RL 23 yX5_steamer]
def wsL_law0_r10 : List Cond := [Cond.instanceMethod yX5_steamer, Cond.selects RX5 yX5_steamer yX5_steamer, Cond.code yX5_steamer cX5_steamer 5 (some .int), Cond.classLink RX5 82 RX4, Cond.instantiable RX4 4, Cond.initialized RX4, Cond.methodLink RX5 76 yX5_countFaring, Cond.instanceMethod yX5_countFaring, Cond.selects RX5 yX5_countFaring yX5_countFaring, Cond.code yX5_countFaring cX5_countFaring 4 (some .int), Cond.classLink RX5 82 "CoalHulks$Steamer", Cond.fieldLink RX5 164 "CoalHulks$Steamer" "fate" "I", Cond.methodLink RX5 84 yX4_init, Cond.instanceMethod yX4_init, Cond.code yX4_init cX4_init 4 none, Cond.methodLink RX4 3 objectInit, Cond.fieldLink RX4 9 "CoalHulks$Steamer" "number" "I", Cond.fieldLink RX4 15 "CoalHulks$Steamer" "want" "I", Cond.fieldLink RX4 18 "CoalHulks$Steamer" "patience" "I", Cond.fieldLink RX4 21 "CoalHulks$Steamer" "fate" "I", Cond.methodLink RL 93 yX6_steamer, Cond.instanceMethod yX6_steamer, Cond.selects RX6 yX6_steamer yX6_steamer, Cond.code yX6_steamer cX6_steamer 3 (some .int)]
def wsL_law0_r11 : List Cond := [Cond.fieldLink RX6 59 "CoalHulksModel" "steamers" "I", Cond.fieldLink RX6 75 "CoalHulksModel" "clock" "I", Cond.methodLink RX6 71 yX6_many, Cond.instanceMethod yX6_many, Cond.selects RX6 yX6_many yX6_many, Cond.code yX6_many cX6_many 4 (some .int), Cond.methodLink RL 94 yL_order, Cond.static yL_order, Cond.codeWith yL_order cL_order 5 (some .int) [(0, 7, 10, 31), (0, 7, 14, 15)], Cond.classLink RL 31 "java/lang/IndexOutOfBoundsException", Cond.methodLink RL 27 yX5_order, Cond.instanceMethod yX5_order, Cond.selects RX5 yX5_order yX5_order, Cond.code yX5_order cX5_order 7 none, Cond.classLink RX5 111 RX3, Cond.instantiable RX3 2, Cond.initialized RX3, Cond.fieldLink RX5 116 "CoalHulks$Lighter" "task" "LCoalHulks$Order;", Cond.fieldLink RX5 120 "CoalHulks$Gang" "aboard" "Z", Cond.methodLink RX5 86 yX5_findLighter, Cond.instanceMethod yX5_findLighter, Cond.selects RX5 yX5_findLighter yX5_findLighter, Cond.code yX5_findLighter cX5_findLighter 2 (some (.object "CoalHulks$Lighter")), Cond.classLink RX5 188 "java/lang/IndexOutOfBoundsException"]
def wsL_law0_r12 : List Cond := [Cond.initialized "java/lang/IndexOutOfBoundsException", Cond.classLink RX5 60 "CoalHulks$Lighter", Cond.methodLink RX5 90 yX5_findGang, Cond.instanceMethod yX5_findGang, Cond.selects RX5 yX5_findGang yX5_findGang, Cond.code yX5_findGang cX5_findGang 2 (some (.object "CoalHulks$Gang")), Cond.classLink RX5 71 "CoalHulks$Gang", Cond.methodLink RX5 94 yX5_findSteamer, Cond.instanceMethod yX5_findSteamer, Cond.selects RX5 yX5_findSteamer yX5_findSteamer, Cond.code yX5_findSteamer cX5_findSteamer 2 (some (.object "CoalHulks$Steamer")), Cond.methodLink RX5 98 yX5_refuseOrdered, Cond.static yX5_refuseOrdered, Cond.code yX5_refuseOrdered cX5_refuseOrdered 1 none, Cond.methodLink RX5 102 yX5_refuseBusy, Cond.static yX5_refuseBusy, Cond.code yX5_refuseBusy cX5_refuseBusy 1 none, Cond.methodLink RX5 183 yX0_isFree, Cond.instanceMethod yX0_isFree, Cond.selects RX0 yX0_isFree yX0_isFree, Cond.code yX0_isFree cX0_isFree 1 (some .boolean), Cond.fieldLink RX0 18 "CoalHulks$Gang" "aboard" "Z", Cond.fieldLink RX0 22 "CoalHulks$Gang" "rest" "I", Cond.methodLink RX5 106 yX4_hasLeft]
def wsL_law0_r13 : List Cond := [Cond.instanceMethod yX4_hasLeft, Cond.selects RX4 yX4_hasLeft yX4_hasLeft, Cond.code yX4_hasLeft cX4_hasLeft 1 (some .boolean), Cond.methodLink RX5 113 yX3_init, Cond.instanceMethod yX3_init, Cond.code yX3_init cX3_init 3 none, Cond.methodLink RX3 1 objectInit, Cond.fieldLink RX3 7 "CoalHulks$Order" "shovellers" "LCoalHulks$Gang;", Cond.fieldLink RX3 13 "CoalHulks$Order" "target" "LCoalHulks$Steamer;", Cond.methodLink RL 97 yX6_order, Cond.instanceMethod yX6_order, Cond.selects RX6 yX6_order yX6_order, Cond.code yX6_order cX6_order 4 none, Cond.methodLink RX6 78 yX6_is, Cond.static yX6_is, Cond.code yX6_is cX6_is 2 (some .boolean), Cond.methodLink RX6 82 yX6_isBusy, Cond.instanceMethod yX6_isBusy, Cond.selects RX6 yX6_isBusy yX6_isBusy, Cond.code yX6_isBusy cX6_isBusy 4 (some .boolean), Cond.methodLink RL 98 yL_shift, Cond.static yL_shift, Cond.codeWith yL_shift cL_shift 4 (some .int) [(0, 6, 9, 31), (0, 6, 12, 15)], Cond.methodLink RL 33 yX5_shift]
def wsL_law0_r14 : List Cond := [Cond.instanceMethod yX5_shift, Cond.selects RX5 yX5_shift yX5_shift, Cond.code yX5_shift cX5_shift 5 none, Cond.fieldLink RX5 128 "CoalHulks$Lighter" "home" "LCoalHulks$Hulk;", Cond.methodLink RX5 124 yX5_findHulk, Cond.instanceMethod yX5_findHulk, Cond.selects RX5 yX5_findHulk yX5_findHulk, Cond.code yX5_findHulk cX5_findHulk 2 (some (.object "CoalHulks$Hulk")), Cond.methodLink RL 101 yX6_shift, Cond.instanceMethod yX6_shift, Cond.selects RX6 yX6_shift yX6_shift, Cond.code yX6_shift cX6_shift 3 none, Cond.methodLink RL 102 yL_sweep, Cond.static yL_sweep, Cond.codeWith yL_sweep cL_sweep 5 (some .int) [(0, 10, 13, 31), (0, 10, 17, 15)], Cond.methodLink RL 37 yX5_sweep, Cond.instanceMethod yX5_sweep, Cond.selects RX5 yX5_sweep yX5_sweep, Cond.code yX5_sweep cX5_sweep 6 (some .int), Cond.fieldLink RX5 132 "CoalHulks$Lighter" "dust" "I", Cond.fieldLink RX5 136 "CoalHulks$Hulk" "coal" "I", Cond.methodLink RX5 139 yX0_lieDown, Cond.instanceMethod yX0_lieDown, Cond.selects RX0 yX0_lieDown yX0_lieDown]
def wsL_law0_r15 : List Cond := [Cond.code yX0_lieDown cX0_lieDown 1 none, Cond.fieldLink RX0 25 "CoalHulks$Gang" "hoursCounted" "I", Cond.methodLink RL 104 yX6_sweep, Cond.instanceMethod yX6_sweep, Cond.selects RX6 yX6_sweep yX6_sweep, Cond.code yX6_sweep cX6_sweep 4 (some .int), Cond.methodLink RL 105 yL_hours, Cond.static yL_hours, Cond.codeWith yL_hours cL_hours 4 (some .int) [(0, 9, 12, 13)], Cond.methodLink RL 40 yX5_hours, Cond.instanceMethod yX5_hours, Cond.selects RX5 yX5_hours yX5_hours, Cond.code yX5_hours cX5_hours 4 (some .int), Cond.methodLink RX5 142 yX5_passAnHour, Cond.instanceMethod yX5_passAnHour, Cond.selects RX5 yX5_passAnHour yX5_passAnHour, Cond.code yX5_passAnHour cX5_passAnHour 2 (some .int), Cond.fieldLink RX5 145 "CoalHulks" "hoursGone" "I", Cond.methodLink RX5 199 yX5_restGangs, Cond.instanceMethod yX5_restGangs, Cond.selects RX5 yX5_restGangs yX5_restGangs, Cond.code yX5_restGangs cX5_restGangs 3 none, Cond.fieldLink RX5 161 "CoalHulks$Gang" "rest" "I", Cond.methodLink RX5 202 yX5_takeBuoys]
def wsL_law0_r16 : List Cond := [Cond.instanceMethod yX5_takeBuoys, Cond.selects RX5 yX5_takeBuoys yX5_takeBuoys, Cond.code yX5_takeBuoys cX5_takeBuoys 4 none, Cond.methodLink RX5 205 yX5_workLighters, Cond.instanceMethod yX5_workLighters, Cond.selects RX5 yX5_workLighters yX5_workLighters, Cond.code yX5_workLighters cX5_workLighters 4 none, Cond.fieldLink RX5 154 "CoalHulks$Order" "shovellers" "LCoalHulks$Gang;", Cond.fieldLink RX5 211 "CoalHulks$Gang" "hoursCounted" "I", Cond.methodLink RX5 214 yX5_work, Cond.instanceMethod yX5_work, Cond.selects RX5 yX5_work yX5_work, Cond.code yX5_work cX5_work 3 none, Cond.fieldLink RX5 148 "CoalHulks$Lighter" "place" "I", Cond.methodLink RX5 218 yX5_workAtHulk, Cond.static yX5_workAtHulk, Cond.code yX5_workAtHulk cX5_workAtHulk 3 none, Cond.fieldLink RX5 151 "CoalHulks$Lighter" "load" "I", Cond.fieldLink RX5 230 "CoalHulks$Lighter" "hold" "I", Cond.fieldLink RX5 237 "CoalHulks$Lighter" "hoursOut" "I", Cond.methodLink RX5 233 yX5_shovelFromHulk, Cond.static yX5_shovelFromHulk, Cond.code yX5_shovelFromHulk cX5_shovelFromHulk 5 none, Cond.methodLink RX5 243 Lib.Math.min.name]
def wsL_law0_r17 : List Cond := [Cond.methodLink RX5 249 yX0_strength, Cond.instanceMethod yX0_strength, Cond.selects RX0 yX0_strength yX0_strength, Cond.code yX0_strength cX0_strength 3 (some .int), Cond.methodLink RX5 240 yX5_endOrder, Cond.static yX5_endOrder, Cond.code yX5_endOrder cX5_endOrder 3 none, Cond.methodLink RX5 221 yX5_goOutward, Cond.static yX5_goOutward, Cond.code yX5_goOutward cX5_goOutward 1 none, Cond.methodLink RX5 224 yX5_workAtSteamer, Cond.instanceMethod yX5_workAtSteamer, Cond.selects RX5 yX5_workAtSteamer yX5_workAtSteamer, Cond.code yX5_workAtSteamer cX5_workAtSteamer 3 none, Cond.fieldLink RX5 252 "CoalHulks$Order" "target" "LCoalHulks$Steamer;", Cond.methodLink RX5 256 yX5_shovelIntoSteamer, Cond.instanceMethod yX5_shovelIntoSteamer, Cond.selects RX5 yX5_shovelIntoSteamer yX5_shovelIntoSteamer, Cond.code yX5_shovelIntoSteamer cX5_shovelIntoSteamer 7 none, Cond.fieldLink RX5 167 "CoalHulks$Steamer" "want" "I", Cond.fieldLink RX5 176 "CoalHulks" "coalDelivered" "I", Cond.methodLink RX5 227 yX5_comeHome, Cond.static yX5_comeHome, Cond.code yX5_comeHome cX5_comeHome 2 none]
def wsL_law0_r18 : List Cond := [Cond.methodLink RX5 208 yX5_letSteamersLeave, Cond.instanceMethod yX5_letSteamersLeave, Cond.selects RX5 yX5_letSteamersLeave yX5_letSteamersLeave, Cond.code yX5_letSteamersLeave cX5_letSteamersLeave 4 (some .int), Cond.fieldLink RX5 259 "CoalHulks$Steamer" "patience" "I", Cond.methodLink RX5 262 yX5_recallLighters, Cond.instanceMethod yX5_recallLighters, Cond.selects RX5 yX5_recallLighters yX5_recallLighters, Cond.code yX5_recallLighters cX5_recallLighters 5 none, Cond.methodLink RX5 269 yX5_recall, Cond.static yX5_recall, Cond.code yX5_recall cX5_recall 2 none, Cond.methodLink RX5 266 yX5_forgetTheLeft, Cond.instanceMethod yX5_forgetTheLeft, Cond.selects RX5 yX5_forgetTheLeft yX5_forgetTheLeft, Cond.code yX5_forgetTheLeft cX5_forgetTheLeft 2 none, Cond.methodLink RX5 272 yJx4a65c_remove_915e3, Cond.instanceMethod yJx4a65c_remove_915e3, Cond.selects RJx4a65c yJx4a65c_remove_915e3 yJx4a65c_remove_915e3, Cond.code yJx4a65c_remove_915e3 cJx4a65c_remove_915e3 4 (some (.object "java/lang/Object")), Cond.methodLink RJx4a65c 144 yJx4a65c_fastRemove_b59b0, Cond.instanceMethod yJx4a65c_fastRemove_b59b0, Cond.selects RJx4a65c yJx4a65c_fastRemove_b59b0 yJx4a65c_fastRemove_b59b0, Cond.code yJx4a65c_fastRemove_b59b0 cJx4a65c_fastRemove_b59b0 4 none]
def wsL_law0_r19 : List Cond := [Cond.methodLink RJx4a65c 112 arraycopyName, Cond.methodLink RL 107 yX6_hours, Cond.instanceMethod yX6_hours, Cond.selects RX6 yX6_hours yX6_hours, Cond.code yX6_hours cX6_hours 4 (some .int), Cond.methodLink RX6 118 yX6_hourOnce, Cond.instanceMethod yX6_hourOnce, Cond.selects RX6 yX6_hourOnce yX6_hourOnce, Cond.code yX6_hourOnce cX6_hourOnce 3 (some .int), Cond.methodLink RX6 112 yX6_work, Cond.instanceMethod yX6_work, Cond.selects RX6 yX6_work yX6_work, Cond.code yX6_work cX6_work 2 none, Cond.methodLink RX6 103 yX6_atHulk, Cond.instanceMethod yX6_atHulk, Cond.selects RX6 yX6_atHulk yX6_atHulk, Cond.code yX6_atHulk cX6_atHulk 5 none, Cond.methodLink RX6 86 yX6_least, Cond.static yX6_least, Cond.code yX6_least cX6_least 2 (some .int), Cond.methodLink RX6 90 yX6_shovels, Cond.instanceMethod yX6_shovels, Cond.selects RX6 yX6_shovels yX6_shovels, Cond.code yX6_shovels cX6_shovels 4 (some .int)]
def wsL_law0_r20 : List Cond := [Cond.methodLink RX6 93 yX6_endOrder, Cond.instanceMethod yX6_endOrder, Cond.selects RX6 yX6_endOrder yX6_endOrder, Cond.code yX6_endOrder cX6_endOrder 3 none, Cond.methodLink RX6 106 yX6_atSteamer, Cond.instanceMethod yX6_atSteamer, Cond.selects RX6 yX6_atSteamer yX6_atSteamer, Cond.code yX6_atSteamer cX6_atSteamer 4 none, Cond.fieldLink RX6 100 "CoalHulksModel" "delivered" "I", Cond.methodLink RX6 97 yX6_turnHome, Cond.instanceMethod yX6_turnHome, Cond.selects RX6 yX6_turnHome yX6_turnHome, Cond.code yX6_turnHome cX6_turnHome 2 none, Cond.methodLink RX6 109 yX6_goOn, Cond.instanceMethod yX6_goOn, Cond.selects RX6 yX6_goOn yX6_goOn, Cond.code yX6_goOn cX6_goOn 2 none, Cond.methodLink RX6 115 yX6_leave, Cond.instanceMethod yX6_leave, Cond.selects RX6 yX6_leave yX6_leave, Cond.code yX6_leave cX6_leave 3 none, Cond.methodLink RL 108 yX5_clock, Cond.instanceMethod yX5_clock, Cond.selects RX5 yX5_clock yX5_clock]
def wsL_law0_r21 : List Cond := [Cond.code yX5_clock cX5_clock 1 (some .int), Cond.methodLink RL 111 yX6_clock, Cond.instanceMethod yX6_clock, Cond.selects RX6 yX6_clock yX6_clock, Cond.code yX6_clock cX6_clock 1 (some .int), Cond.methodLink RL 112 yL_coalIn, Cond.static yL_coalIn, Cond.codeWith yL_coalIn cL_coalIn 4 (some .int) [(0, 9, 12, 31)], Cond.methodLink RL 43 yX5_coalIn, Cond.instanceMethod yX5_coalIn, Cond.selects RX5 yX5_coalIn yX5_coalIn, Cond.code yX5_coalIn cX5_coalIn 2 (some .int), Cond.methodLink RL 114 yX6_coalIn, Cond.instanceMethod yX6_coalIn, Cond.selects RX6 yX6_coalIn yX6_coalIn, Cond.code yX6_coalIn cX6_coalIn 2 (some .int), Cond.methodLink RX6 122 yX6_told, Cond.instanceMethod yX6_told, Cond.selects RX6 yX6_told yX6_told, Cond.code yX6_told cX6_told 4 (some .int), Cond.methodLink RL 115 yL_placeOf, Cond.static yL_placeOf, Cond.codeWith yL_placeOf cL_placeOf 4 (some .int) [(0, 9, 12, 31)], Cond.methodLink RL 46 yX5_placeOf]
def wsL_law0_r22 : List Cond := [Cond.instanceMethod yX5_placeOf, Cond.selects RX5 yX5_placeOf yX5_placeOf, Cond.code yX5_placeOf cX5_placeOf 2 (some .int), Cond.methodLink RL 117 yX6_placeOf, Cond.instanceMethod yX6_placeOf, Cond.selects RX6 yX6_placeOf yX6_placeOf, Cond.code yX6_placeOf cX6_placeOf 2 (some .int), Cond.methodLink RL 118 yL_loadOf, Cond.static yL_loadOf, Cond.codeWith yL_loadOf cL_loadOf 4 (some .int) [(0, 9, 12, 31)], Cond.methodLink RL 49 yX5_loadOf, Cond.instanceMethod yX5_loadOf, Cond.selects RX5 yX5_loadOf yX5_loadOf, Cond.code yX5_loadOf cX5_loadOf 2 (some .int), Cond.methodLink RL 120 yX6_loadOf, Cond.instanceMethod yX6_loadOf, Cond.selects RX6 yX6_loadOf yX6_loadOf, Cond.code yX6_loadOf cX6_loadOf 2 (some .int), Cond.methodLink RL 121 yL_dustIn, Cond.static yL_dustIn, Cond.codeWith yL_dustIn cL_dustIn 4 (some .int) [(0, 9, 12, 31)], Cond.methodLink RL 52 yX5_dustIn, Cond.instanceMethod yX5_dustIn, Cond.selects RX5 yX5_dustIn yX5_dustIn]
def wsL_law0_r23 : List Cond := [Cond.code yX5_dustIn cX5_dustIn 2 (some .int), Cond.methodLink RL 123 yX6_dustIn, Cond.instanceMethod yX6_dustIn, Cond.selects RX6 yX6_dustIn yX6_dustIn, Cond.code yX6_dustIn cX6_dustIn 2 (some .int), Cond.methodLink RL 124 yL_gangOn, Cond.static yL_gangOn, Cond.codeWith yL_gangOn cL_gangOn 4 (some .int) [(0, 9, 12, 31)], Cond.methodLink RL 55 yX5_gangOn, Cond.instanceMethod yX5_gangOn, Cond.selects RX5 yX5_gangOn yX5_gangOn, Cond.code yX5_gangOn cX5_gangOn 3 (some .int), Cond.fieldLink RX5 158 "CoalHulks$Gang" "number" "I", Cond.methodLink RL 126 yX6_gangOn, Cond.instanceMethod yX6_gangOn, Cond.selects RX6 yX6_gangOn yX6_gangOn, Cond.code yX6_gangOn cX6_gangOn 2 (some .int), Cond.methodLink RL 127 yL_restOf, Cond.static yL_restOf, Cond.codeWith yL_restOf cL_restOf 4 (some .int) [(0, 9, 12, 31)], Cond.methodLink RL 58 yX5_restOf, Cond.instanceMethod yX5_restOf, Cond.selects RX5 yX5_restOf yX5_restOf, Cond.code yX5_restOf cX5_restOf 2 (some .int)]
def wsL_law0_r24 : List Cond := [Cond.methodLink RL 129 yX6_restOf, Cond.instanceMethod yX6_restOf, Cond.selects RX6 yX6_restOf yX6_restOf, Cond.code yX6_restOf cX6_restOf 2 (some .int), Cond.methodLink RL 130 yL_fateOf, Cond.static yL_fateOf, Cond.codeWith yL_fateOf cL_fateOf 4 (some .int) [(0, 9, 12, 31)], Cond.methodLink RL 61 yX5_fateOf, Cond.instanceMethod yX5_fateOf, Cond.selects RX5 yX5_fateOf yX5_fateOf, Cond.code yX5_fateOf cX5_fateOf 2 (some .int), Cond.methodLink RL 132 yX6_fateOf, Cond.instanceMethod yX6_fateOf, Cond.selects RX6 yX6_fateOf yX6_fateOf, Cond.code yX6_fateOf cX6_fateOf 2 (some .int), Cond.methodLink RL 133 yL_wantOf, Cond.static yL_wantOf, Cond.codeWith yL_wantOf cL_wantOf 4 (some .int) [(0, 9, 12, 31)], Cond.methodLink RL 64 yX5_wantOf, Cond.instanceMethod yX5_wantOf, Cond.selects RX5 yX5_wantOf yX5_wantOf, Cond.code yX5_wantOf cX5_wantOf 2 (some .int), Cond.methodLink RL 135 yX6_wantOf, Cond.instanceMethod yX6_wantOf]
def wsL_law0_r25 : List Cond := [Cond.selects RX6 yX6_wantOf yX6_wantOf, Cond.code yX6_wantOf cX6_wantOf 2 (some .int), Cond.methodLink RL 136 yL_outside, Cond.static yL_outside, Cond.codeWith yL_outside cL_outside 4 (some .int) [(0, 9, 12, 13)], Cond.methodLink RL 67 yX5_outside, Cond.instanceMethod yX5_outside, Cond.selects RX5 yX5_outside yX5_outside, Cond.code yX5_outside cX5_outside 5 (some .int), Cond.fieldLink RX5 175 "CoalHulks$Steamer" "number" "I", Cond.methodLink RL 138 yX6_outside, Cond.instanceMethod yX6_outside, Cond.selects RX6 yX6_outside yX6_outside, Cond.code yX6_outside cX6_outside 4 (some .int), Cond.methodLink RL 139 yX5_delivered, Cond.instanceMethod yX5_delivered, Cond.selects RX5 yX5_delivered yX5_delivered, Cond.code yX5_delivered cX5_delivered 1 (some .int), Cond.methodLink RL 142 yX6_delivered, Cond.instanceMethod yX6_delivered, Cond.selects RX6 yX6_delivered yX6_delivered, Cond.code yX6_delivered cX6_delivered 1 (some .int)]
def wsL_law0 : List Cond := (wsL_law0_r1 ++ (wsL_law0_r2 ++ (wsL_law0_r3 ++ (wsL_law0_r4 ++ (wsL_law0_r5 ++ (wsL_law0_r6 ++ (wsL_law0_r7 ++ (wsL_law0_r8 ++ (wsL_law0_r9 ++ (wsL_law0_r10 ++ (wsL_law0_r11 ++ (wsL_law0_r12 ++ (wsL_law0_r13 ++ (wsL_law0_r14 ++ (wsL_law0_r15 ++ (wsL_law0_r16 ++ (wsL_law0_r17 ++ (wsL_law0_r18 ++ (wsL_law0_r19 ++ (wsL_law0_r20 ++ (wsL_law0_r21 ++ (wsL_law0_r22 ++ (wsL_law0_r23 ++ (wsL_law0_r24 ++ wsL_law0_r25)))))))))))))))))))))))) ++ wsX50 ++ wsX60 ++ wsJx4a65c0 ++ wsX10 ++ wsX20 ++ wsX00 ++ wsX40 ++ wsX30 ++ ([] : List Cond)
def wsL_law : List Cond := wsL_law0 ++ (vx_atS RX5 40 "java/lang/IllegalStateException" ["java/lang/RuntimeException", "java/lang/Exception"]).filter goodWord ++ (vx_atS RX5 174 "java/lang/IllegalArgumentException" ["java/lang/RuntimeException", "java/lang/Exception"]).filter goodWord ++ (vx_atS RX5 192 "java/lang/IndexOutOfBoundsException" ["java/lang/RuntimeException", "java/lang/Exception"]).filter goodWord
abbrev vwCl : List vw_C := [(RJx4a65c, TJx4a65c, 3), (RX0, TX0, 5), (RX1, TX1, 1), (RX2, TX2, 7), (RX3, TX3, 2), (RX4, TX4, 4), (RX5, TX5, 7), (RX6, TX6, 22)]
end
section
/-! my own layer over the kit: a pool of cells (addresses L, contents f), one contract form PM for all methods (it returns with a new pool, or throws with the old one), and the rows of the kit said in these words -/
abbrev Kx : Type := va_G × (ClassId × ClassId × ClassId) × Nat × Nat × Nat × (Nat → Nat)
def kA (κ : Kx) : Nat → Prop := fun q => κ.2.2.1 ≤ q
abbrev kI (κ : Kx) : ClassId := κ.2.1.1
abbrev kO (κ : Kx) : ClassId := κ.2.1.2.1
abbrev kJ (κ : Kx) : ClassId := κ.2.1.2.2
abbrev kTE (κ : Kx) : Nat := κ.2.2.2.1
abbrev kMI (κ : Kx) : Nat := κ.2.2.2.2.1
def kT (κ : Kx) : List (ClassId × FieldType) := [(kI κ, .int), (kO κ, .object "java/lang/Object"), (kJ κ, .long)]
def kStr : List (Nat × String) := [(38, "there are 3 hulks"), (52, "there are 6 lighters"), (58, "there is no hulk"), (69, "there are 6 gangs"), (80, "there is no room outside"), (109, "the steamer has left"), (172, "the place is below 0"), (179, "out of range"), (181, "the lighter has an order"), (186, "the gang has an order or rests"), (190, "no such hulk"), (193, "no such lighter"), (195, "no such gang"), (197, "no such steamer")]
def kNc : List (String × String) := [("java/lang/IllegalStateException", "java/lang/IllegalArgumentException"), ("java/lang/IllegalStateException", "java/lang/IndexOutOfBoundsException")]
def kCa : List (String × String) := [(RX0, "java/lang/Object"), (RX1, "java/lang/Object"), (RX2, "java/lang/Object"), (RX4, "java/lang/Object"), ("java/lang/IllegalArgumentException", "java/lang/IllegalArgumentException"), ("java/lang/IllegalStateException", "java/lang/IllegalStateException"), ("java/lang/IndexOutOfBoundsException", "java/lang/IndexOutOfBoundsException")]
/-- what a method needs of the world outside the pool -/
def kSt (κ : Kx) (U : State) (H : Heap) : Prop :=
  (vx_Zq Bundle.tN "UNASSIGNED_STACK" Bundle.steD (kA κ) U H ∧ vx_Zq Bundle.tN "SUPPRESSED_SENTINEL" Bundle.listD (kA κ) U H) ∧
  (va_Z "java/util/ArrayList" "DEFAULTCAPACITY_EMPTY_ELEMENTDATA" "[Ljava/lang/Object;" (.ref (kTE κ)) (kA κ) U H ∧ va_T (.object "java/lang/Object") (kTE κ) 0 (fun _ => .null) (kA κ) U H) ∧
  (va_Mi "[Ljava/lang/Object;" (kMI κ) U ∧ va_Dc U ∧ va_AO "java/lang/Object" U) ∧
  (∀ q ∈ kStr, vk_R RX5 q.1 q.2 (κ.2.2.2.2.2 q.1) U) ∧ (∀ q ∈ kNc, va_Nc q.1 q.2 U) ∧ (∀ q ∈ kCa, va_Nw (.castable q.1 q.2) U)
theorem kSt.warm {κ : Kx} {s U : State} {H H1 : Heap} (h : kSt κ s H) (hW : s.WarmedH U.vm) (hq : ∀ a : Nat, a < H.size → ¬ kA κ a → H1[a]? = H[a]?) : kSt κ U H1 := by
  obtain ⟨⟨h1, h2⟩, ⟨h3, h4⟩, ⟨h5, h6, h7⟩, h8, h9, h10⟩ := h
  exact ⟨⟨(h1.kept hq).moved hW.alike, (h2.kept hq).moved hW.alike⟩, ⟨(h3.kept hq).moved hW.alike, (h4.kept hq).moved hW.alike⟩, ⟨h5.moved hW.alike, h6.moved hW.alike, h7.moved hW.alike⟩, fun q hq => (h8 q hq).warm hW, fun q hq => (h9 q hq).moved hW.alike, fun q hq => (h10 q hq).warmC hW⟩
/-- here: at heap H of the method begun in s, the pool holds f at L -/
def HH (κ : Kx) (L : List Nat) (f : Nat → va_E) (s : State) (H : Heap) (locs : List Loc) : Prop :=
  va_K κ.1 vwCl (kT κ) s ∧ va_P κ.1 vwCl (va_pl L f) H ∧ va_D (kA κ) (va_pl L f) ∧ va_S (kA κ) s.heap H locs ∧ κ.2.2.1 ≤ s.heap.size ∧ kSt κ s s.heap
/-- the same of a state -/
def HW (κ : Kx) (L : List Nat) (f : Nat → va_E) (U : State) : Prop :=
  va_K κ.1 vwCl (kT κ) U ∧ va_P κ.1 vwCl (va_pl L f) U.heap ∧ va_D (kA κ) (va_pl L f) ∧ κ.2.2.1 ≤ U.heap.size ∧ kSt κ U U.heap
section BASE
variable {κ : Kx} {L : List Nat} {f : Nat → va_E} {s : State} {H : Heap} {locs : List Loc}
theorem HH.out (h : HH κ L f s H locs) {U : State} (hU : U.heap = H) (hW : s.WarmedH U.vm) : HW κ L f U := by
  obtain ⟨hK, hP, hD, hS, hb, hs⟩ := h
  exact ⟨hK.moved hW.alike, by rw [hU]; exact hP, hD, by rw [hU]; exact Nat.le_trans hb hS.1, by rw [hU]; exact hs.warm hW hS.2.1⟩
theorem HW.blind {U : State} (h : HW κ L f U) (g : JFrame) (mk : MethodId) (a : Array Value) : HW κ L f (U.calling g mk a) := by
  obtain ⟨hK, hP, hD, hb, hs⟩ := h
  exact ⟨va_K.moved (u := U) (U := U.calling g mk a) (Vm.Alike.refl U.vm) hK, hP, hD, hb, kSt.warm (s := U) (U := U.calling g mk a) hs (State.WarmedH.refl U) (fun _ _ _ => rfl)⟩
theorem HH.of (h : HW κ L f s) : HH κ L f s s.heap [] := ⟨h.1, h.2.1, h.2.2.1, va_S.rf, h.2.2.2.1, h.2.2.2.2⟩
theorem HH.back (h : HH κ L f s H locs) {L1 : List Nat} {f1 : Nat → va_E} {t : State} {H1 : Heap} {locs1 : List Loc} (ht : HW κ L1 f1 t) (e : t.heap = H1) (hS : va_S (kA κ) s.heap H1 locs1) : HH κ L1 f1 s H1 locs1 :=
  ⟨h.1, by rw [← e]; exact ht.2.1, ht.2.2.1, hS, h.2.2.2.2.1, h.2.2.2.2.2⟩
theorem HH.pos (_ : HH κ L f s H locs) {a : Nat} (ha : a ∈ L) {e : va_E} (hf : f a = e) : ∃ k : Nat, (va_pl L f)[k]? = some (a, f a) ∧ (va_pl L f)[k]? = some (a, e) := by
  obtain ⟨k, hk⟩ := va_pl_get (X := []) (f := f) ha
  exact ⟨k, hk, by rw [← hf]; exact hk⟩
theorem HH.hA (h : HH κ L f s H locs) : ∀ q, s.heap.size ≤ q → kA κ q := fun _ hq => Nat.le_trans h.2.2.2.2.1 hq
theorem HH.recv (h : HH κ L f s H locs) {a ci : Nat} {q : vw_C} {fs : List Value} (ha : a ∈ L) (hf : f a = .inr (ci, fs)) (hc : vwCl[ci]? = some q) : ∃ cell : Cell, H[a]? = some cell ∧ cell.vm.isStatics = false ∧ s.vm.findClass q.1 = some cell.cls := by
  obtain ⟨k, -, hk⟩ := h.pos ha hf
  exact va_recv h.1 h.2.1 hc hk
theorem HH.set (h : HH κ L f s H locs) {a k : Nat} {e : va_E} {H1 : Heap} {locs1 : List Loc} (ha : a ∈ L) (hk : (va_pl L f)[k]? = some (a, f a)) (hP : va_P κ.1 vwCl ((va_pl L f).set k (a, e)) H1) (hD : va_D (kA κ) ((va_pl L f).set k (a, e))) (hS : va_S (kA κ) s.heap H1 locs1) : HH κ L (va_up f a e) s H1 locs1 := by
  have e1 : (va_pl L f).set k (a, e) = va_pl L (va_up f a e) := va_pl_set (X := []) h.2.2.1 ha hk
  rw [e1] at hP hD
  exact ⟨h.1, hP, hD, hS, h.2.2.2.2.1, h.2.2.2.2.2⟩
theorem HH.push (h : HH κ L f s H locs) {q : Nat} {e : va_E} {H1 : Heap} {locs1 : List Loc} (hP : va_P κ.1 vwCl (va_pl L f ++ [(q, e)]) H1) (hD : va_D (kA κ) (va_pl L f ++ [(q, e)])) (hS : va_S (kA κ) s.heap H1 locs1) : q ∉ L ∧ HH κ (L ++ [q]) (va_up f q e) s H1 locs1 := by
  have hq : q ∉ L := fun hm => by
    obtain ⟨k, hk, -⟩ := h.pos hm (rfl : f q = f q)
    have hlt : k < (va_pl L f).length := (List.getElem?_eq_some_iff.mp hk).1
    have h1 : (va_pl L f ++ [(q, e)])[k]? = some (q, f q) := by rw [List.getElem?_append_left hlt]; exact hk
    have h2 : (va_pl L f ++ [(q, e)])[(va_pl L f).length]? = some (q, e) := by rw [List.getElem?_append_right (Nat.le_refl _)]; simp
    have := hD.1 _ _ _ _ h1 h2 rfl
    omega
  rw [va_pl_push hq] at hP hD
  exact ⟨hq, h.1, hP, hD, hS, h.2.2.2.2.1, h.2.2.2.2.2⟩
end BASE
/-- what a method's end gives: the value, the new pool -/
def PQ (κ : Kx) (post : Option Value → List Nat → (Nat → va_E) → Prop) : Array Value → State → Outcome → State → Prop := fun _ st o t => (∃ (v : Option Value) (L1 : List Nat) (f1 : Nat → va_E), o = .returned v ∧ post v L1 f1 ∧ HW κ L1 f1 t) ∧ va_F (kA κ) st t
def PX (κ : Kx) (L : List Nat) (f : Nat → va_E) (ex : String → Prop) : String → State → State → Prop := fun E st t => ex E ∧ va_P κ.1 vwCl (va_pl L f) t.heap ∧ va_F (kA κ) st t
/-- the contract: from the pool (L, f), with these arguments: it returns v with a pool of which post holds, or throws an E with ex E, the pool as it was; at most mc cells of ms slots are new -/
def PM (l : Launch) (κ : Kx) (y : MethodName) (ws : List Cond) (rm : Room) (av : List Value) (L : List Nat) (f : Nat → va_E) (post : Option Value → List Nat → (Nat → va_E) → Prop) (ex : String → Prop) (mc ms : Nat) : Prop :=
  vx_Met l y ws rm (va_Pc av (fun U => HW κ L f U)) (PQ κ post) (PX κ L f ex) mc ms (kA κ)
abbrev noX : String → Prop := fun _ => False
/-- a contract's start -/
theorem PM.mk {l : Launch} {κ : Kx} {y : MethodName} {ws ws' : List Cond} {rm : Room} {av : List Value} {L : List Nat} {f : Nat → va_E} {post : Option Value → List Nat → (Nat → va_E) → Prop} {ex : String → Prop} {mc ms : Nat} {cc : ByteArray} {maxL : Nat} {ret : Option FieldType}
    (hy : plainName y.cls = true) (hw : ws = Cond.code y cc maxL ret :: ws') (hlen : (lg_sl av).length ≤ maxL)
    (body : ∀ (p : Program) (e : Env) (s : State) (m : MethodId) (args : Array Value) (below : List Frame) (meth : Method) (c : Code) (ls : Array Slot), p.tables.exec = Jvm.exec → c.code = cc → c.maxLocals = maxL → meth.sig.returnType = ret → meth.locks = false → meth.name = y.name → s.vm.findClass y.cls = some m.cls → (∀ w ∈ ws, w.before args s = true) → (∀ x ∈ c.exceptionTable.toList, False) → HH κ L f s s.heap [] → lv_has ls maxL (lv_args 0 av) →
      W p l e rm s m args below meth c s.heap [] 0 0 (vx_MQ below (PQ κ post) (PX κ L f ex) args s mc ms (kA κ)) (F0 m 0 ls [])) : PM l κ y ws rm av L f post ex mc ms := by
  refine vx_ofW (cc := cc) (maxL := maxL) (ret := ret) hy hw ?_
  intro p e s m args below meth c s₁ B hml ht hv
  obtain ⟨rfl, hh⟩ := hv
  rw [lg_entry_eq]
  exact body p e s m _ below meth c _ B.exec B.bytes hml B.returns B.notSynchronized (name_of_methodNamed B.named B.method).1 (findClass_of_methodNamed B.named) (atoms_spec (ws := ws) B.pre) ht (HH.of hh) (lv_entry av hlen)
section ROWS
variable {p : Program} {l : Launch} {e : Env} {R : Room} {s : State} {m : MethodId} {args : Array Value} {below : List Frame} {meth : Method} {c : Code} {H : Heap} {locs : List Loc} {cells slots : Nat} {Q : State → Prop}
variable {κ : Kx} {L : List Nat} {f : Nat → va_E} {cc : ByteArray} {pc : Nat} {ls : Array Slot} {rest st0 : List Value} {a : Nat} {Ts : List Cond} {own : String}
theorem h_get (hx : p.tables.exec = Jvm.exec) (hb : c.code = cc) (hts : ∀ w ∈ Ts, w.before args s = true) (hown : s.vm.findClass own = some m.cls) (hh : HH κ L f s H locs) {ref C : String} {T : u_T} {N ci index : Nat} {fs : List Value} (ha : a ∈ L) (hf : f a = .inr (ci, fs)) (hc : vwCl[ci]? = some (C, T, N)) (hin : ∀ w ∈ u_ws C T N, w ∈ Ts) (k : Nat) (hk : k < N) (hlink : (Cond.fieldLink own index ref (T k).2.1 (T k).2.2.1).before args s = true) (hsame : ∀ x, s.fieldFound? (T k).1 (T k).2.1 (T k).2.2.1 = some x → s.fieldFound? ref (T k).2.1 (T k).2.2.1 = some x) {v : Value} (hv : fs[k]? = some v) (hdg : decode cc pc = .ok (.getfield index, 3))
    (kk : W p l e R s m args below meth c H locs cells slots Q (F0 m (pc + 3) ls (v :: rest))) : W p l e R s m args below meth c H locs cells slots Q (F0 m pc ls (.ref a :: rest)) := by
  obtain ⟨q0, -, he⟩ := hh.pos ha hf
  exact va_get hx hb hts hin hown hh.1 hh.2.1 q0 he hc k hk hlink hsame hv hdg kk
theorem h_put (hx : p.tables.exec = Jvm.exec) (hb : c.code = cc) (hts : ∀ w ∈ Ts, w.before args s = true) (hown : s.vm.findClass own = some m.cls) (hh : HH κ L f s H locs) {ref C : String} {T : u_T} {N ci index : Nat} {fs : List Value} (ha : a ∈ L) (hf : f a = .inr (ci, fs)) (hc : vwCl[ci]? = some (C, T, N)) (hin : ∀ w ∈ u_ws C T N, w ∈ Ts) (ty0 : Nat → FieldType) (hty : ∀ k, k < N → parseFieldDescriptor (T k).2.2.1 = some (ty0 k)) (hnm : ∀ a, a < N → ∀ b, b < N → a ≠ b → (T a).2.1 ≠ (T b).2.1) (k : Nat) (hk : k < N) (hlink : (Cond.fieldLink own index ref (T k).2.1 (T k).2.2.1).before args s = true) (hsame : ∀ x, s.fieldFound? (T k).1 (T k).2.1 (T k).2.2.1 = some x → s.fieldFound? ref (T k).2.1 (T k).2.2.1 = some x) (hfin : (T k).2.2.2 = false) {ty : FieldType} {v : Value} (hd : ty0 k = ty) (hn : narrow ty v = v) (hfit : fits ty v = true) (hl : k < fs.length) (hdg : decode cc pc = .ok (.putfield index, 3))
    (kk : ∀ (H1 : Heap) (locs1 : List Loc), HH κ L (va_up f a (.inr (ci, fs.set k v))) s H1 locs1 → W p l e R s m args below meth c H1 locs1 cells slots Q (F0 m (pc + 3) ls rest)) : W p l e R s m args below meth c H locs cells slots Q (F0 m pc ls (v :: .ref a :: rest)) := by
  obtain ⟨q0, he0, he⟩ := hh.pos ha hf
  exact va_put hx hb hts hin ty0 hty hnm hown hh.1 hh.2.1 hh.2.2.1 hh.2.2.2.1 q0 he hc k hk hlink hsame hfin ((hty k hk).trans (congrArg some hd)) hn hfit hl hdg (fun H1 locs1 hP hD hS => kk H1 locs1 (hh.set ha he0 hP hD hS))
theorem h_putF (hx : p.tables.exec = Jvm.exec) (hb : c.code = cc) (hts : ∀ w ∈ Ts, w.before args s = true) (hown : s.vm.findClass own = some m.cls) (hh : HH κ L f s H locs) {ref C : String} {T : u_T} {N ci index : Nat} {fs : List Value} (ha : a ∈ L) (hf : f a = .inr (ci, fs)) (hc : vwCl[ci]? = some (C, T, N)) (hin : ∀ w ∈ u_ws C T N, w ∈ Ts) (ty0 : Nat → FieldType) (hty : ∀ k, k < N → parseFieldDescriptor (T k).2.2.1 = some (ty0 k)) (hnm : ∀ a, a < N → ∀ b, b < N → a ≠ b → (T a).2.1 ≠ (T b).2.1) (k : Nat) (hk : k < N) (hlink : (Cond.fieldLink own index ref (T k).2.1 (T k).2.2.1).before args s = true) (hsame : ∀ x, s.fieldFound? (T k).1 (T k).2.1 (T k).2.2.1 = some x → s.fieldFound? ref (T k).2.1 (T k).2.2.1 = some x) (hfin : (T k).2.2.2 = true) (hin2 : meth.name = "<init>") (hdecl : (T k).1 = own) {ty : FieldType} {v : Value} (hd : ty0 k = ty) (hn : narrow ty v = v) (hfit : fits ty v = true) (hl : k < fs.length) (hdg : decode cc pc = .ok (.putfield index, 3))
    (kk : ∀ (H1 : Heap) (locs1 : List Loc), HH κ L (va_up f a (.inr (ci, fs.set k v))) s H1 locs1 → W p l e R s m args below meth c H1 locs1 cells slots Q (F0 m (pc + 3) ls rest)) : W p l e R s m args below meth c H locs cells slots Q (F0 m pc ls (v :: .ref a :: rest)) := by
  obtain ⟨q0, he0, he⟩ := hh.pos ha hf
  exact va_putF hx hb hts hin ty0 hty hnm hown hh.1 hh.2.1 hh.2.2.1 hh.2.2.2.1 q0 he hc k hk hlink hsame hfin hin2 hdecl ((hty k hk).trans (congrArg some hd)) hn hfit hl hdg (fun H1 locs1 hP hD hS => kk H1 locs1 (hh.set ha he0 hP hD hS))
theorem h_new {c0 : Code} (hx : p.tables.exec = Jvm.exec) (hb : c0.code = cc) (hts : ∀ w ∈ Ts, w.before args s = true) (hown : s.vm.findClass own = some m.cls) (hh : HH κ L f s H locs) {C : String} {T : u_T} {N ci index : Nat} (hc : vwCl[ci]? = some (C, T, N)) (hin : ∀ w ∈ u_ws C T N, w ∈ Ts) (ty : Nat → FieldType) (hty : ∀ k, k < N → parseFieldDescriptor (T k).2.2.1 = some (ty k)) (hcl : (Cond.classLink own index C).before args s = true) (hinst : (Cond.instantiable C N).before args s = true) (hini : (Cond.initialized C).before args s = true) {fs : List Value} (hfs : ∀ j, j < N → defaultValue (ty j) = vp_V fs j) (hcells : cells + 1 ≤ R.cells) (hslots : slots + N ≤ R.slots) (hdg : decode cc pc = .ok (.new index, 3))
    (kk : ∀ (q : Nat) (H1 : Heap), q ∉ L → HH κ (L ++ [q]) (va_up f q (.inr (ci, fs))) s H1 locs → W p l e R s m args below meth c0 H1 locs (cells + 1) (slots + N) Q (F0 m (pc + 3) ls (.ref q :: rest))) : W p l e R s m args below meth c0 H locs cells slots Q (F0 m pc ls rest) :=
  va_new hx hb hts hin ty hty hown hcl hinst hini hh.1 hh.2.1 hh.2.2.1 hh.2.2.2.1 hh.hA hc hfs hcells hslots hdg (fun q H1 hP hD hS => by
    obtain ⟨h1, h2⟩ := hh.push hP hD hS
    exact kk q H1 h1 h2)
theorem h_iald (hx : p.tables.exec = Jvm.exec) (hb : c.code = cc) (hh : HH κ L f s H locs) {n : Nat} {g : Nat → Int32} (ha : a ∈ L) (hf : f a = .inl (kI κ, n, .inl g)) {i : Int32} (hin : vp_in i n) (hdg : decode cc pc = .ok (.iaload, 1))
    (kk : W p l e R s m args below meth c H locs cells slots Q (F0 m (pc + 1) ls (.int (g i.toNatClampNeg) :: rest))) : W p l e R s m args below meth c H locs cells slots Q (F0 m pc ls (.int i :: .ref a :: rest)) := by
  obtain ⟨q0, -, he⟩ := hh.pos ha hf
  exact va_iald hx hb hh.1 hh.2.1 q0 0 he rfl hin hdg kk
theorem h_iast (hx : p.tables.exec = Jvm.exec) (hb : c.code = cc) (hh : HH κ L f s H locs) {n : Nat} {g : Nat → Int32} (ha : a ∈ L) (hf : f a = .inl (kI κ, n, .inl g)) {i x : Int32} (hin : vp_in i n) (hdg : decode cc pc = .ok (.iastore, 1))
    (kk : ∀ (H1 : Heap) (locs1 : List Loc), HH κ L (va_up f a (.inl (kI κ, n, .inl (upd g i.toNatClampNeg x)))) s H1 locs1 → W p l e R s m args below meth c H1 locs1 cells slots Q (F0 m (pc + 1) ls rest)) : W p l e R s m args below meth c H locs cells slots Q (F0 m pc ls (.int x :: .int i :: .ref a :: rest)) := by
  obtain ⟨q0, he0, he⟩ := hh.pos ha hf
  exact va_iast hx hb hh.1 hh.2.1 hh.2.2.1 hh.2.2.2.1 q0 0 he rfl hin hdg (fun H1 locs1 hP hD hS => kk H1 locs1 (hh.set ha he0 hP hD hS))
theorem h_lald (hx : p.tables.exec = Jvm.exec) (hb : c.code = cc) (hh : HH κ L f s H locs) {n : Nat} {g : Nat → Int64} (ha : a ∈ L) (hf : f a = .inl (kJ κ, n, .inr (.inl g))) {i : Int32} (hin : vp_in i n) (hdg : decode cc pc = .ok (.laload, 1))
    (kk : W p l e R s m args below meth c H locs cells slots Q (F0 m (pc + 1) ls (.long (g i.toNatClampNeg) :: rest))) : W p l e R s m args below meth c H locs cells slots Q (F0 m pc ls (.int i :: .ref a :: rest)) := by
  obtain ⟨q0, -, he⟩ := hh.pos ha hf
  exact va_lald hx hb hh.1 hh.2.1 q0 2 he rfl hin hdg kk
theorem h_last (hx : p.tables.exec = Jvm.exec) (hb : c.code = cc) (hh : HH κ L f s H locs) {n : Nat} {g : Nat → Int64} (ha : a ∈ L) (hf : f a = .inl (kJ κ, n, .inr (.inl g))) {i : Int32} {x : Int64} (hin : vp_in i n) (hdg : decode cc pc = .ok (.lastore, 1))
    (kk : ∀ (H1 : Heap) (locs1 : List Loc), HH κ L (va_up f a (.inl (kJ κ, n, .inr (.inl (vp_updL g i.toNatClampNeg x))))) s H1 locs1 → W p l e R s m args below meth c H1 locs1 cells slots Q (F0 m (pc + 1) ls rest)) : W p l e R s m args below meth c H locs cells slots Q (F0 m pc ls (.long x :: .int i :: .ref a :: rest)) := by
  obtain ⟨q0, he0, he⟩ := hh.pos ha hf
  exact va_last hx hb hh.1 hh.2.1 hh.2.2.1 hh.2.2.2.1 q0 2 he rfl hin hdg (fun H1 locs1 hP hD hS => kk H1 locs1 (hh.set ha he0 hP hD hS))
theorem h_aald (hx : p.tables.exec = Jvm.exec) (hb : c.code = cc) (hh : HH κ L f s H locs) {n : Nat} {g : Nat → Option Nat} (ha : a ∈ L) (hf : f a = .inl (kO κ, n, .inr (.inr (.inr (.inr g))))) {i : Int32} (hin : vp_in i n) (hdg : decode cc pc = .ok (.aaload, 1))
    (kk : W p l e R s m args below meth c H locs cells slots Q (F0 m (pc + 1) ls (va_rf (g i.toNatClampNeg) :: rest))) : W p l e R s m args below meth c H locs cells slots Q (F0 m pc ls (.int i :: .ref a :: rest)) := by
  obtain ⟨q0, -, he⟩ := hh.pos ha hf
  exact va_aldq hx hb hh.1 hh.2.1 q0 1 he rfl hin hdg kk
theorem h_aast (hx : p.tables.exec = Jvm.exec) (hb : c.code = cc) (hh : HH κ L f s H locs) {n v ci : Nat} {vs : List Value} {q : vw_C} {g : Nat → Option Nat} (ha : a ∈ L) (hf : f a = .inl (kO κ, n, .inr (.inr (.inr (.inr g))))) (hv : v ∈ L) (hfv : f v = .inr (ci, vs)) (hc : vwCl[ci]? = some q) (hca : (q.1, "java/lang/Object") ∈ kCa) {i : Int32} (hin : vp_in i n) (hdg : decode cc pc = .ok (.aastore, 1))
    (kk : ∀ (H1 : Heap) (locs1 : List Loc), HH κ L (va_up f a (.inl (kO κ, n, .inr (.inr (.inr (.inr (va_up g i.toNatClampNeg (some v)))))))) s H1 locs1 → W p l e R s m args below meth c H1 locs1 cells slots Q (F0 m (pc + 1) ls rest)) : W p l e R s m args below meth c H locs cells slots Q (F0 m pc ls (.ref v :: .int i :: .ref a :: rest)) := by
  obtain ⟨q0, he0, he⟩ := hh.pos ha hf
  obtain ⟨q1, -, he1⟩ := hh.pos hv hfv
  exact va_astqO hx hb hh.1 hh.2.1 hh.2.2.1 hh.2.2.2.1 q0 1 q1 ci he rfl (hh.2.2.2.2.2.2.2.2.2.2 _ hca) he1 hc hin hdg (fun H1 locs1 hP hD hS => kk H1 locs1 (hh.set ha he0 hP hD hS))
theorem h_aastN (hx : p.tables.exec = Jvm.exec) (hb : c.code = cc) (hh : HH κ L f s H locs) {n : Nat} {g : Nat → Option Nat} (ha : a ∈ L) (hf : f a = .inl (kO κ, n, .inr (.inr (.inr (.inr g))))) {i : Int32} (hin : vp_in i n) (hdg : decode cc pc = .ok (.aastore, 1))
    (kk : ∀ (H1 : Heap) (locs1 : List Loc), HH κ L (va_up f a (.inl (kO κ, n, .inr (.inr (.inr (.inr (va_up g i.toNatClampNeg none))))))) s H1 locs1 → W p l e R s m args below meth c H1 locs1 cells slots Q (F0 m (pc + 1) ls rest)) : W p l e R s m args below meth c H locs cells slots Q (F0 m pc ls (.null :: .int i :: .ref a :: rest)) := by
  obtain ⟨q0, he0, he⟩ := hh.pos ha hf
  exact va_astqN hx hb hh.1 hh.2.1 hh.2.2.1 hh.2.2.2.1 q0 1 he rfl hin hdg (fun H1 locs1 hP hD hS => kk H1 locs1 (hh.set ha he0 hP hD hS))
theorem h_alen (hx : p.tables.exec = Jvm.exec) (hb : c.code = cc) (hh : HH κ L f s H locs) {n : Nat} {g : Nat → Option Nat} (ha : a ∈ L) (hf : f a = .inl (kO κ, n, .inr (.inr (.inr (.inr g))))) (hdg : decode cc pc = .ok (.arraylength, 1))
    (kk : W p l e R s m args below meth c H locs cells slots Q (F0 m (pc + 1) ls (.int (nI n) :: rest))) : W p l e R s m args below meth c H locs cells slots Q (F0 m pc ls (.ref a :: rest)) := by
  obtain ⟨q0, -, he⟩ := hh.pos ha hf
  exact va_alen hx hb hh.1 hh.2.1 q0 1 he rfl rfl hdg kk
theorem h_alenE (hx : p.tables.exec = Jvm.exec) (hb : c.code = cc) (hh : HH κ L f s H locs) (hdg : decode cc pc = .ok (.arraylength, 1))
    (kk : W p l e R s m args below meth c H locs cells slots Q (F0 m (pc + 1) ls (.int 0 :: rest))) : W p l e R s m args below meth c H locs cells slots Q (F0 m pc ls (.ref (kTE κ) :: rest)) :=
  va_tlen hx hb hh.2.2.2.2.2.2.1.2 hh.2.2.2.1 rfl hdg kk
theorem h_newq (hx : p.tables.exec = Jvm.exec) (hb : c.code = cc) (hown : s.vm.findClass own = some m.cls) (hh : HH κ L f s H locs) {index : Nat} (hclink : (Cond.classLink own index "java/lang/Object").before args s = true) {n : Int32} {N' : Nat} (hn : ¬ n < 0) (hN : n.toNatClampNeg = N') (hbytes : N' * 4 ≤ 536870912) (hcells : cells + 1 ≤ R.cells) (hslots : slots + N' ≤ R.slots) (hdg : decode cc pc = .ok (.anewarray index, 3))
    (kk : ∀ (q : Nat) (H1 : Heap), q ∉ L → HH κ (L ++ [q]) (va_up f q (.inl (kO κ, N', .inr (.inr (.inr (.inr (fun _ => none))))))) s H1 locs → W p l e R s m args below meth c H1 locs (cells + 1) (slots + N') Q (F0 m (pc + 3) ls (.ref q :: rest))) : W p l e R s m args below meth c H locs cells slots Q (F0 m pc ls (.int n :: rest)) :=
  va_newq hx hb hown hclink hh.2.2.2.2.2.2.2.1.2.2 hh.1 hh.2.1 hh.2.2.1 hh.2.2.2.1 hh.hA hn hN hbytes hcells hslots hdg (fun q cA H1 hK hP hD hS => by
    have h1 := (hK.2 3 (cA, .object "java/lang/Object") rfl).2
    have h2 := (hh.1.2 1 (kO κ, .object "java/lang/Object") rfl).2
    obtain ⟨k1, c1, -, -, -, e1⟩ := h1
    obtain ⟨k2, c2, -, -, -, e2⟩ := h2
    cases Option.some.inj (e1.symm.trans e2)
    obtain ⟨h1, h2⟩ := hh.push hP hD hS
    exact kk q H1 h1 h2)
theorem h_newi (hx : p.tables.exec = Jvm.exec) (hb : c.code = cc) (hh : HH κ L f s H locs) (harr : (Cond.arrayClass .int).before args s = true) {n : Int32} {N' : Nat} (hn : ¬ n < 0) (hN : n.toNatClampNeg = N') (hbytes : N' * componentBytes .int ≤ 536870912) (hcells : cells + 1 ≤ R.cells) (hslots : slots + N' ≤ R.slots) (hdg : decode cc pc = .ok (.newarray .int, 2))
    (kk : ∀ (q : Nat) (H1 : Heap), q ∉ L → HH κ (L ++ [q]) (va_up f q (.inl (kI κ, N', .inl (fun _ => 0)))) s H1 locs → W p l e R s m args below meth c H1 locs (cells + 1) (slots + N') Q (F0 m (pc + 2) ls (.ref q :: rest))) : W p l e R s m args below meth c H locs cells slots Q (F0 m pc ls (.int n :: rest)) :=
  va_newa (atype := .int) (a0 := (N', .inl (fun _ => 0))) hx hb harr rfl hh.1 hh.2.1 hh.2.2.1 hh.2.2.2.1 hh.hA (fun cA => rfl) hn hN hbytes hcells hslots hdg (fun q cA H1 hK hP hD hS => by
    have h1 := (hK.2 3 (cA, .int) rfl).2
    have h2 := (hh.1.2 0 (kI κ, .int) rfl).2
    cases Option.some.inj (h1.symm.trans h2)
    obtain ⟨h1, h2⟩ := hh.push hP hD hS
    exact kk q H1 h1 h2)
theorem h_newj (hx : p.tables.exec = Jvm.exec) (hb : c.code = cc) (hh : HH κ L f s H locs) (harr : (Cond.arrayClass .long).before args s = true) {n : Int32} {N' : Nat} (hn : ¬ n < 0) (hN : n.toNatClampNeg = N') (hbytes : N' * componentBytes .long ≤ 536870912) (hcells : cells + 1 ≤ R.cells) (hslots : slots + N' ≤ R.slots) (hdg : decode cc pc = .ok (.newarray .long, 2))
    (kk : ∀ (q : Nat) (H1 : Heap), q ∉ L → HH κ (L ++ [q]) (va_up f q (.inl (kJ κ, N', .inr (.inl (fun _ => 0))))) s H1 locs → W p l e R s m args below meth c H1 locs (cells + 1) (slots + N') Q (F0 m (pc + 2) ls (.ref q :: rest))) : W p l e R s m args below meth c H locs cells slots Q (F0 m pc ls (.int n :: rest)) :=
  va_newa (atype := .long) (a0 := (N', .inr (.inl (fun _ => 0)))) hx hb harr rfl hh.1 hh.2.1 hh.2.2.1 hh.2.2.2.1 hh.hA (fun cA => rfl) hn hN hbytes hcells hslots hdg (fun q cA H1 hK hP hD hS => by
    have h1 := (hK.2 3 (cA, .long) rfl).2
    have h2 := (hh.1.2 2 (kJ κ, .long) rfl).2
    cases Option.some.inj (h1.symm.trans h2)
    obtain ⟨h1, h2⟩ := hh.push hP hD hS
    exact kk q H1 h1 h2)
/-- a cast to the object's own class -/
theorem h_cast (hx : p.tables.exec = Jvm.exec) (hb : c.code = cc) (hown : s.vm.findClass own = some m.cls) (hh : HH κ L f s H locs) {C : String} {T : u_T} {N ci index : Nat} {fs : List Value} (ha : a ∈ L) (hf : f a = .inr (ci, fs)) (hc : vwCl[ci]? = some (C, T, N)) (hlink : (Cond.classLink own index C).before args s = true) (hdg : decode cc pc = .ok (.checkcast index, 3))
    (kk : W p l e R s m args below meth c H locs cells slots Q (F0 m (pc + 3) ls (.ref a :: rest))) : W p l e R s m args below meth c H locs cells slots Q (F0 m pc ls (.ref a :: rest)) :=
  va_castS hx hb hown hlink (hh.1.1 ci _ hc).2 (hh.recv ha hf hc) hdg kk
end ROWS
end
section
section CALLS
variable {p : Program} {l : Launch} {e : Env} {R : Room} {s : State} {m : MethodId} {args : Array Value} {below : List Frame} {meth : Method} {c : Code} {H : Heap} {locs : List Loc} {cells slots : Nat} {Q : State → Prop}
variable {κ : Kx} {L : List Nat} {f : Nat → va_E} {cc : ByteArray} {pc : Nat} {ls : Array Slot} {rest st0 : List Value} {Ts : List Cond} {own : String}
variable {y : MethodName} {bytes : ByteArray} {maxL nL mc ms n index : Nat} {ret : Option FieldType} {ws : List Cond} {rm : Room} {post : Option Value → List Nat → (Nat → va_E) → Prop} {ex : String → Prop} {C : String} {b : Addr} {As av : List Value}
/-- a constructor's contract (it never throws) -/
def PC (l : Launch) (κ : Kx) (y : MethodName) (ws : List Cond) (rm : Room) (av : List Value) (L : List Nat) (f : Nat → va_E) (post : Option Value → List Nat → (Nat → va_E) → Prop) (mc ms : Nat) : Prop :=
  Met l y ws rm (va_Pc av (fun U => HW κ L f U)) (PQ κ post) mc ms (kA κ)
theorem k_blind : FrameBlind (va_Pc av (fun U => HW κ L f U)) := fun a U g mk h => ⟨h.1, h.2.blind g mk a⟩
theorem k_preS (hh : HH κ L f s H locs) : PreS s H (va_Pc As (fun U => HW κ L f U)) As := ⟨k_blind, fun _ hU hW => ⟨rfl, hh.out hU hW⟩⟩
theorem k_preV (hh : HH κ L f s H locs) {ci : Nat} {q : vw_C} {fs : List Value} (hb : b ∈ L) (hf : f b = .inr (ci, fs)) (hc : vwCl[ci]? = some q) (hC : q.1 = C) : PreV s H C b (va_Pc (.ref b :: As) (fun U => HW κ L f U)) As :=
  ⟨k_blind, by subst hC; exact hh.recv hb hf hc, fun _ hU hW => ⟨rfl, hh.out hU hW⟩⟩
theorem k_run (hr : vx_Run p l e R s m args below meth c H locs cells slots mc ms (F0 m pc ls st0) rest (PQ κ post av.toArray) (PX κ L f ex) (kA κ)) (hh : HH κ L f s H locs)
    (kk : ∀ (v : Option Value) (L1 : List Nat) (f1 : Nat → va_E) (H1 : Heap) (locs1 : List Loc), post v L1 f1 → HH κ L1 f1 s H1 locs1 → W p l e R s m args below meth c H1 locs1 (cells + mc) (slots + ms) Q (F0 m (pc + 3) ls (v.toList ++ rest)))
    (kx : ∀ (E : String) (ce : Cell) (q9 : Addr) (H1 : Heap) (locs1 : List Loc), ex E → HH κ L f s H1 locs1 → H1[q9]? = some ce → ce.vm = .none → s.vm.findClass E = some ce.cls → vx_W p l e R s m args below meth c H1 locs1 (cells + mc) (slots + ms) Q (F0 m pc ls rest) q9) : W p l e R s m args below meth c H locs cells slots Q (F0 m pc ls st0) := by
  intro T hT X
  rcases hr T hT X with ⟨v, st₀, t, T', L9, h0, X', hL, e1, e2, ⟨⟨v1, L1, f1, hv, hp, hb⟩, hF⟩, st⟩ | ⟨q, st₀, t, T', L9, E, ce, h0, X', hL, e1, e2, ⟨hp, hb, hF⟩, hce, hcv, hcl, st⟩
  · cases hv
    obtain ⟨k1, k2, k3⟩ := vx_keep h0 e1 hh.2.2.2.1 (fun _ _ h => h) (fun _ h => h) hL hF
    obtain ⟨t2, a1, b1⟩ := kk v L1 f1 T'.heap (locs ++ L9) hp (hh.back hb e1.symm k3) T' rfl X'
    exact ⟨t2, st t2 a1, b1⟩
  · obtain ⟨k1, k2, k3⟩ := vx_keep h0 e1 hh.2.2.2.1 (fun _ _ h => h) (fun _ h => h) hL hF
    obtain ⟨t2, a1, b1⟩ := kx E ce q T'.heap (locs ++ L9) hp ⟨hh.1, by rw [e1]; exact hb, hh.2.2.1, k3, hh.2.2.2.2.1, hh.2.2.2.2.2⟩ (by rw [e1]; exact hce) hcv hcl T' rfl X'
    exact ⟨t2, st.trans a1, b1⟩
theorem k_runC (hr : va_Run p l e R s m args below meth c H locs cells slots mc ms (F0 m pc ls st0) rest (PQ κ post av.toArray) (kA κ)) (hh : HH κ L f s H locs)
    (kk : ∀ (v : Option Value) (L1 : List Nat) (f1 : Nat → va_E) (H1 : Heap) (locs1 : List Loc), post v L1 f1 → HH κ L1 f1 s H1 locs1 → W p l e R s m args below meth c H1 locs1 (cells + mc) (slots + ms) Q (F0 m (pc + 3) ls (v.toList ++ rest))) : W p l e R s m args below meth c H locs cells slots Q (F0 m pc ls st0) := by
  intro T hT X
  obtain ⟨v, st₀, t, T', L9, h0, X', hL, e1, e2, ⟨⟨v1, L1, f1, hv, hp, hb⟩, hF⟩, st⟩ := hr T hT X
  cases hv
  obtain ⟨k1, k2, k3⟩ := vx_keep h0 e1 hh.2.2.2.1 (fun _ _ h => h) (fun _ h => h) hL hF
  obtain ⟨t2, a1, b1⟩ := kk v L1 f1 T'.heap (locs ++ L9) hp (hh.back hb e1.symm k3) T' rfl X'
  exact ⟨t2, st t2 a1, b1⟩
/-- invokevirtual (also of a private method of the same class) -/
theorem k_callV (hM : PM l κ y ws rm (.ref b :: As) L f post ex mc ms) (S : CallFix p m c cc nL s args Ts own) (hh : HH κ L f s H locs) (cw : CallW R s args own C index y bytes maxL ret ws rm mc ms n) {ci : Nat} {q : vw_C} {fs : List Value} (hb : b ∈ L) (hf : f b = .inr (ci, fs)) (hc : vwCl[ci]? = some q) (hC : q.1 = C) (hn : As.length = n) (hsize : ls.size = nL) (hst : st0 = As.reverse ++ .ref b :: rest) (hW : (rest.map fun v => v.category).sum ≤ 8) (hdg : decode cc pc = .ok (.invokevirtual index, 3)) (hr : cells + mc ≤ R.cells ∧ slots + ms ≤ R.slots)
    (kk : ∀ (v : Option Value) (L1 : List Nat) (f1 : Nat → va_E) (H1 : Heap) (locs1 : List Loc), post v L1 f1 → HH κ L1 f1 s H1 locs1 → W p l e R s m args below meth c H1 locs1 (cells + mc) (slots + ms) Q (F0 m (pc + 3) ls (v.toList ++ rest)))
    (kx : ∀ (E : String) (ce : Cell) (q9 : Addr) (H1 : Heap) (locs1 : List Loc), ex E → HH κ L f s H1 locs1 → H1[q9]? = some ce → ce.vm = .none → s.vm.findClass E = some ce.cls → vx_W p l e R s m args below meth c H1 locs1 (cells + mc) (slots + ms) Q (F0 m pc ls rest) q9) : W p l e R s m args below meth c H locs cells slots Q (F0 m pc ls st0) :=
  k_run (av := .ref b :: As) (vx_runV S hM cw (k_preV hh hb hf hc hC) rfl hn hsize hst (lv_room hW) hdg hr) hh kk kx
/-- invokestatic -/
theorem k_callS (hM : PM l κ y ws rm As L f post ex mc ms) (S : CallFix p m c cc nL s args Ts own) (hh : HH κ L f s H locs) (cw : CallB R s args own index y bytes maxL ret ws rm mc ms n ∧ (Cond.static y).before args s = true) (hn : As.length = n) (hsize : ls.size = nL) (hst : st0 = As.reverse ++ rest) (hW : (rest.map fun v => v.category).sum ≤ 8) (hdg : decode cc pc = .ok (.invokestatic index, 3)) (hr : cells + mc ≤ R.cells ∧ slots + ms ≤ R.slots)
    (kk : ∀ (v : Option Value) (L1 : List Nat) (f1 : Nat → va_E) (H1 : Heap) (locs1 : List Loc), post v L1 f1 → HH κ L1 f1 s H1 locs1 → W p l e R s m args below meth c H1 locs1 (cells + mc) (slots + ms) Q (F0 m (pc + 3) ls (v.toList ++ rest)))
    (kx : ∀ (E : String) (ce : Cell) (q9 : Addr) (H1 : Heap) (locs1 : List Loc), ex E → HH κ L f s H1 locs1 → H1[q9]? = some ce → ce.vm = .none → s.vm.findClass E = some ce.cls → vx_W p l e R s m args below meth c H1 locs1 (cells + mc) (slots + ms) Q (F0 m pc ls rest) q9) : W p l e R s m args below meth c H locs cells slots Q (F0 m pc ls st0) :=
  k_run (av := As) (vx_runS S hM cw (k_preS hh) rfl hn hsize hst (lv_room hW) hdg hr) hh kk kx
/-- a callee that never throws -/
theorem k_callV0 (hM : PM l κ y ws rm (.ref b :: As) L f post noX mc ms) (S : CallFix p m c cc nL s args Ts own) (hh : HH κ L f s H locs) (cw : CallW R s args own C index y bytes maxL ret ws rm mc ms n) {ci : Nat} {q : vw_C} {fs : List Value} (hb : b ∈ L) (hf : f b = .inr (ci, fs)) (hc : vwCl[ci]? = some q) (hC : q.1 = C) (hn : As.length = n) (hsize : ls.size = nL) (hst : st0 = As.reverse ++ .ref b :: rest) (hW : (rest.map fun v => v.category).sum ≤ 8) (hdg : decode cc pc = .ok (.invokevirtual index, 3)) (hr : cells + mc ≤ R.cells ∧ slots + ms ≤ R.slots)
    (kk : ∀ (v : Option Value) (L1 : List Nat) (f1 : Nat → va_E) (H1 : Heap) (locs1 : List Loc), post v L1 f1 → HH κ L1 f1 s H1 locs1 → W p l e R s m args below meth c H1 locs1 (cells + mc) (slots + ms) Q (F0 m (pc + 3) ls (v.toList ++ rest))) : W p l e R s m args below meth c H locs cells slots Q (F0 m pc ls st0) :=
  k_callV hM S hh cw hb hf hc hC hn hsize hst hW hdg hr kk (fun _ _ _ _ _ h => h.elim)
theorem k_callS0 (hM : PM l κ y ws rm As L f post noX mc ms) (S : CallFix p m c cc nL s args Ts own) (hh : HH κ L f s H locs) (cw : CallB R s args own index y bytes maxL ret ws rm mc ms n ∧ (Cond.static y).before args s = true) (hn : As.length = n) (hsize : ls.size = nL) (hst : st0 = As.reverse ++ rest) (hW : (rest.map fun v => v.category).sum ≤ 8) (hdg : decode cc pc = .ok (.invokestatic index, 3)) (hr : cells + mc ≤ R.cells ∧ slots + ms ≤ R.slots)
    (kk : ∀ (v : Option Value) (L1 : List Nat) (f1 : Nat → va_E) (H1 : Heap) (locs1 : List Loc), post v L1 f1 → HH κ L1 f1 s H1 locs1 → W p l e R s m args below meth c H1 locs1 (cells + mc) (slots + ms) Q (F0 m (pc + 3) ls (v.toList ++ rest))) : W p l e R s m args below meth c H locs cells slots Q (F0 m pc ls st0) :=
  k_callS hM S hh cw hn hsize hst hW hdg hr kk (fun _ _ _ _ _ h => h.elim)
/-- invokespecial of a constructor -/
theorem k_callI (hM : PC l κ y ws rm (.ref b :: As) L f post mc ms) (S : CallFix p m c cc nL s args Ts own) (hh : HH κ L f s H locs) (cw : CallB R s args own index y bytes maxL none ws rm mc ms n ∧ y.name = "<init>" ∧ (Cond.instanceMethod y).before args s = true) (hn : As.length = n) (hsize : ls.size = nL) (hst : st0 = As.reverse ++ .ref b :: rest) (hW : (rest.map fun v => v.category).sum ≤ 8) (hdg : decode cc pc = .ok (.invokespecial index, 3)) (hr : cells + mc ≤ R.cells ∧ slots + ms ≤ R.slots)
    (kk : ∀ (v : Option Value) (L1 : List Nat) (f1 : Nat → va_E) (H1 : Heap) (locs1 : List Loc), post v L1 f1 → HH κ L1 f1 s H1 locs1 → W p l e R s m args below meth c H1 locs1 (cells + mc) (slots + ms) Q (F0 m (pc + 3) ls (v.toList ++ rest))) : W p l e R s m args below meth c H locs cells slots Q (F0 m pc ls st0) :=
  k_runC (av := .ref b :: As) (va_runI S hM cw (k_preS hh) rfl hn hsize hst (lv_room hW) hdg hr) hh kk
theorem PC.mk {ws' : List Cond} (hy : plainName y.cls = true) (hw : ws = Cond.code y cc maxL ret :: ws') (hlen : (lg_sl av).length ≤ maxL)
    (body : ∀ (p : Program) (e : Env) (s : State) (m : MethodId) (args : Array Value) (below : List Frame) (meth : Method) (c : Code) (ls : Array Slot), p.tables.exec = Jvm.exec → c.code = cc → c.maxLocals = maxL → meth.sig.returnType = ret → meth.locks = false → meth.name = y.name → s.vm.findClass y.cls = some m.cls → (∀ w ∈ ws, w.before args s = true) → HH κ L f s s.heap [] → lv_has ls maxL (lv_args 0 av) →
      W p l e rm s m args below meth c s.heap [] 0 0 (MQ below (PQ κ post) args s mc ms (kA κ)) (F0 m 0 ls [])) : PC l κ y ws rm av L f post mc ms := by
  refine Met.ofW (cc := cc) (maxL := maxL) (ret := ret) hy hw ?_
  intro p e s m args below meth c s₁ B hml hv
  obtain ⟨rfl, hh⟩ := hv
  rw [lg_entry_eq]
  exact body p e s m _ below meth c _ B.exec B.bytes hml B.returns B.notSynchronized (name_of_methodNamed B.named B.method).1 (findClass_of_methodNamed B.named) (atoms_spec (ws := ws) B.pre) (HH.of hh) (lv_entry av hlen)
/-- ends -/
theorem k_Q {v : Option Value} {t : State} (hh : HH κ L f s H locs) (hp : post v L f) (ht : t.heap = H) (hW : s.WarmedH t.vm) : PQ κ post args s (.returned v) t := ⟨⟨v, L, f, rfl, hp, hh.out ht hW⟩, hh.2.2.2.1.F ht⟩
variable {L0 : List Nat} {f0 : Nat → va_E}
theorem k_iret (hx : p.tables.exec = Jvm.exec) (hb : c.code = cc) (hr : meth.sig.returnType = some .int) (hlk : meth.locks = false) {v : Int32} (hh : HH κ L f s H locs) (hdg : decode cc pc = .ok (.ireturn, 1)) (hc : cells ≤ mc) (hs : slots ≤ ms) (hp : post (some (.int v)) L f) : W p l e R s m args below meth c H locs cells slots (vx_MQ below (PQ κ post) (PX κ L0 f0 ex) args s mc ms (kA κ)) (F0 m pc ls [.int v]) :=
  W.widen hc hs (vx_ret (W.iret hx hb hr (fun _ ht hW => k_Q hh hp ht hW) hh.2.2.2.1.2.2 hdg hlk))
theorem k_zret (hx : p.tables.exec = Jvm.exec) (hb : c.code = cc) (hr : meth.sig.returnType = some .boolean) (hlk : meth.locks = false) {v : Int32} (hn : narrow .boolean (.int v) = .int v) (hh : HH κ L f s H locs) (hdg : decode cc pc = .ok (.ireturn, 1)) (hc : cells ≤ mc) (hs : slots ≤ ms) (hp : post (some (.int v)) L f) : W p l e R s m args below meth c H locs cells slots (vx_MQ below (PQ κ post) (PX κ L0 f0 ex) args s mc ms (kA κ)) (F0 m pc ls [.int v]) :=
  W.widen hc hs (vx_ret (W.zret hx hb hr hn (fun _ ht hW => k_Q hh hp ht hW) hh.2.2.2.1.2.2 hdg hlk))
theorem k_vret (hx : p.tables.exec = Jvm.exec) (hb : c.code = cc) (hr : meth.sig.returnType = none) (hlk : meth.locks = false) (hh : HH κ L f s H locs) (hdg : decode cc pc = .ok (.return_, 1)) (hc : cells ≤ mc) (hs : slots ≤ ms) (hp : post none L f) : W p l e R s m args below meth c H locs cells slots (vx_MQ below (PQ κ post) (PX κ L0 f0 ex) args s mc ms (kA κ)) (F0 m pc ls []) :=
  W.widen hc hs (vx_ret (W.vret hx hb hr (fun _ ht hW => k_Q hh hp ht hW) hh.2.2.2.1.2.2 hdg hlk))
theorem k_aret (hx : p.tables.exec = Jvm.exec) (hb : c.code = cc) {rt : FieldType} (hr : meth.sig.returnType = some rt) (hrt : (∃ n, rt = .object n) ∨ ∃ t, rt = .array t) (hlk : meth.locks = false) {a : Nat} (hh : HH κ L f s H locs) (hdg : decode cc pc = .ok (.areturn, 1)) (hc : cells ≤ mc) (hs : slots ≤ ms) (hp : post (some (.ref a)) L f) : W p l e R s m args below meth c H locs cells slots (vx_MQ below (PQ κ post) (PX κ L0 f0 ex) args s mc ms (kA κ)) (F0 m pc ls [.ref a]) :=
  W.widen hc hs (vx_ret (W.aret hx hb hr hrt (Or.inr ⟨a, rfl⟩) (fun _ ht hW => k_Q hh hp ht hW) hh.2.2.2.1.2.2 hdg hlk))
theorem k_cret (hx : p.tables.exec = Jvm.exec) (hb : c.code = cc) (hr : meth.sig.returnType = none) (hlk : meth.locks = false) (hh : HH κ L f s H locs) (hdg : decode cc pc = .ok (.return_, 1)) (hc : cells ≤ mc) (hs : slots ≤ ms) (hp : post none L f) : W p l e R s m args below meth c H locs cells slots (MQ below (PQ κ post) args s mc ms (kA κ)) (F0 m pc ls []) :=
  W.widen hc hs (W.vret hx hb hr (fun _ ht hW => k_Q hh hp ht hW) hh.2.2.2.1.2.2 hdg hlk)
/-- thrown by a callee, not caught here -/
theorem k_out (ht : ∀ x ∈ c.exceptionTable.toList, False) (hlk : meth.locks = false) {E : String} {ce : Cell} {q9 : Addr} (hE : ex E) (hh : HH κ L f s H locs) (h1 : H[q9]? = some ce) (h2 : ce.vm = .none) (h3 : s.vm.findClass E = some ce.cls) (hc : cells ≤ mc) (hs : slots ≤ ms) : vx_W p l e R s m args below meth c H locs cells slots (vx_MQ below (PQ κ post) (PX κ L f ex) args s mc ms (kA κ)) (F0 m pc ls rest) q9 :=
  vx_out (fun x hx => (ht x hx).elim) hlk h1 h2 h3 (fun t ht _ => ⟨hE, by rw [ht]; exact hh.2.1, hh.2.2.2.1.F ht⟩) hh.2.2.2.1.2.2 hc hs
/-- 'throw new E("text")' in CoalHulks -/
theorem k_throw (hx : p.tables.exec = Jvm.exec) (hb : c.code = cc) (hl : l.stackTraces = false) (hml : c.maxLocals = ls.size) (hown : s.vm.findClass RX5 = some m.cls) (ht : ∀ x ∈ c.exceptionTable.toList, False) (hlk : meth.locks = false) (hts : ∀ w ∈ Ts, w.before args s = true) (hh : HH κ L f s H locs) {E text : String} {ik is ic : Nat} (hE : ex E) (hstr : (is, text) ∈ kStr)
    (hcls : Bundle.fit E = true) (hk : Cond.classLink RX5 ik E ∈ Ts) (hini : Cond.initialized E ∈ Ts) (hca : (E, E) ∈ kCa) (hgw : ∀ w ∈ (vx_atS RX5 ic E ["java/lang/RuntimeException", "java/lang/Exception"]).filter goodWord, w ∈ Ts) (hnb : ∀ w ∈ (vx_atS RX5 ic E ["java/lang/RuntimeException", "java/lang/Exception"]).filter (fun w => !goodWord w), w ∈ [Cond.castable E E])
    (hgood : ∀ w ∈ Cond.classLink RX5 ik E :: Cond.initialized E :: vx_atS RX5 ic E ["java/lang/RuntimeException", "java/lang/Exception"], vx_ot w = true)
    (d0 : decode cc pc = .ok (.new ik, 3)) (d3 : decode cc (pc + 3) = .ok (.dup, 1)) (d4 : decode cc (pc + 4) = .ok (.ldc is, 2)) (d6 : decode cc (pc + 6) = .ok (.invokespecial ic, 3)) (d9 : decode cc (pc + 9) = .ok (.athrow, 1))
    (hRf : 5 < R.frames) (hRl : (rest.map fun v => v.category).sum + 82 ≤ R.locals) (hRc : cells + 1 ≤ R.cells) (hRs : slots + 6 ≤ R.slots) (hc : cells + 1 ≤ mc) (hs : slots + 6 ≤ ms) :
    W p l e R s m args below meth c H locs cells slots (vx_MQ below (PQ κ post) (PX κ L f ex) args s mc ms (kA κ)) (F0 m pc ls rest) :=
  vx_throwS (A := kA κ) (sa := κ.2.2.2.2.2 is) (text := text) (names := ["java/lang/RuntimeException", "java/lang/Exception"]) hx hb hl hown hcls (by decide +kernel) (hts _ hk) (hts _ hini) (hh.2.2.2.2.2.2.2.2.1 _ hstr) (vx_hat (fun w h => hts w (hgw w h)) hnb (vx_c (va_Nw.use rfl (hh.2.2.2.2.2.2.2.2.2.2 _ hca)) vx_n)) hgood hh.2.2.2.2.2.1.1 hh.2.2.2.2.2.1.2 hh.2.2.2.1 hml.symm d0 d3 d4 d6 d9 (fun x hx => (ht x hx).elim) hRf hRl hRc hRs hlk
    (fun t _ h1 h2 => ⟨hE, fun k q hq => (hh.2.1 k q hq).kept (h2 q.1 (hh.2.1 k q hq).lt), Nat.le_trans hh.2.2.2.1.1 h1, fun q hq hn => (h2 q (Nat.lt_of_lt_of_le hq hh.2.2.2.1.1)).trans (hh.2.2.2.1.2.1 q hq hn)⟩) hh.2.2.2.1.2.2 hc hs
end CALLS
end
section
/-! the reference's state: M k for the array of field k (0 coal, 1 hold, 2 load, 3 dust, 4 place, 5 home, 6 crew, 7 bound, 8 way, 9 men, 10 counts, 11 rest, 12 want, 13 last, 14 fate), M k 0 for the numbers (15 hulks, 16 lighters, 17 gangs, 18 steamers, 19 clock, 20 delivered, 21 thrown) -/
abbrev MS : Type := Nat → Nat → Int32
def mF (b : Nat → Nat) (M : MS) : List Value := [.ref (b 0), .ref (b 1), .ref (b 2), .ref (b 3), .ref (b 4), .ref (b 5), .ref (b 6), .ref (b 7), .ref (b 8), .ref (b 9), .ref (b 10), .ref (b 11), .ref (b 12), .ref (b 13), .ref (b 14), .int (M 15 0), .int (M 16 0), .int (M 17 0), .int (M 18 0), .int (M 19 0), .int (M 20 0), .int (M 21 0)]
def lenM (k : Nat) : Nat := if k = 0 then 3 else if k < 12 then 6 else 600
theorem lenM_lt (k : Nat) : lenM k < 2 ^ 31 := by
  unfold lenM
  split
  · decide
  · split <;> decide
def isR (e : va_E) : Bool := match e with
  | .inr (ci, _) => ci == 7
  | .inl (_, _, .inl _) => true
  | _ => false
/-- the array k gets x at i -/
def stM (M : MS) (k i : Nat) (x : Int32) : MS := va_up M k (upd (M k) i x)
/-- the number j becomes x -/
def scM (M : MS) (j : Nat) (x : Int32) : MS := va_up M j (fun _ => x)
def ZR (κ : Kx) (xm : Nat) (b : Nat → Nat) (M : MS) (L : List Nat) (f0 f : Nat → va_E) : Prop :=
  (xm ∈ L ∧ f xm = .inr (7, mF b M)) ∧ (∀ k, k < 15 → b k ∈ L ∧ f (b k) = .inl (kI κ, lenM k, .inl (M k))) ∧ (∀ j k, j < 15 → k < 15 → b j = b k → j = k) ∧ ∀ q, isR (f0 q) = false → f q = f0 q
theorem ZR.putA {κ : Kx} {xm : Nat} {b : Nat → Nat} {M : MS} {L : List Nat} {f0 f : Nat → va_E} (h : ZR κ xm b M L f0 f) {k : Nat} (hk : k < 15) (g : Nat → Int32) : ZR κ xm b (va_up M k g) L f0 (va_up f (b k) (.inl (kI κ, lenM k, .inl g))) := by
  obtain ⟨⟨h1, h2⟩, h3, h4, h5⟩ := h
  have hne : xm ≠ b k := fun e => by
    have h9 := (h3 k hk).2
    rw [← e, h2] at h9
    cases h9
  refine ⟨⟨h1, ?_⟩, fun j hj => ⟨(h3 j hj).1, ?_⟩, h4, fun q hq => ?_⟩
  · have e : ∀ j, 15 ≤ j → va_up M k g j = M j := fun j hj => by
      have hjk : j ≠ k := by omega
      simp [va_up, hjk]
    have e2 : va_up f (b k) (.inl (kI κ, lenM k, .inl g)) xm = f xm := by simp [va_up, hne]
    rw [e2, h2]
    simp only [mF, e 15 (by omega), e 16 (by omega), e 17 (by omega), e 18 (by omega), e 19 (by omega), e 20 (by omega), e 21 (by omega)]
  · by_cases hjk : j = k
    · subst hjk
      simp [va_up]
    · have hb : b j ≠ b k := fun e => hjk (h4 _ _ hj hk e)
      have e2 : va_up f (b k) (.inl (kI κ, lenM k, .inl g)) (b j) = f (b j) := by simp [va_up, hb]
      have e3 : va_up M k g j = M j := by simp [va_up, hjk]
      rw [e2, e3]
      exact (h3 j hj).2
  · have hqk : q ≠ b k := fun e => by
      have e1 := h5 q hq
      rw [← e1, e, (h3 k hk).2] at hq
      cases hq
    have e2 : va_up f (b k) (.inl (kI κ, lenM k, .inl g)) q = f q := by simp [va_up, hqk]
    rw [e2]
    exact h5 q hq
theorem ZR.putF {κ : Kx} {xm : Nat} {b : Nat → Nat} {M : MS} {L : List Nat} {f0 f : Nat → va_E} (h : ZR κ xm b M L f0 f) {j : Nat} (hj : 15 ≤ j ∧ j < 22) (x : Int32) : ZR κ xm b (scM M j x) L f0 (va_up f xm (.inr (7, (mF b M).set j (.int x)))) := by
  obtain ⟨⟨h1, h2⟩, h3, h4, h5⟩ := h
  refine ⟨⟨h1, ?_⟩, fun k hk => ⟨(h3 k hk).1, ?_⟩, h4, fun q hq => ?_⟩
  · have e2 : va_up f xm (.inr (7, (mF b M).set j (.int x))) xm = .inr (7, (mF b M).set j (.int x)) := by simp [va_up]
    rw [e2]
    have hj2 : j = 15 ∨ j = 16 ∨ j = 17 ∨ j = 18 ∨ j = 19 ∨ j = 20 ∨ j = 21 := by omega
    rcases hj2 with rfl | rfl | rfl | rfl | rfl | rfl | rfl <;> simp [mF, scM, va_up]
  · have hne : b k ≠ xm := fun e => by
      have h9 := (h3 k hk).2
      rw [e, h2] at h9
      cases h9
    have e2 : va_up f xm (.inr (7, (mF b M).set j (.int x))) (b k) = f (b k) := by simp [va_up, hne]
    have hkj : k ≠ j := by omega
    have e3 : scM M j x k = M k := by simp [scM, va_up, hkj]
    rw [e2, e3]
    exact (h3 k hk).2
  · have hqk : q ≠ xm := fun e => by
      have e1 := h5 q hq
      rw [← e1, e, h2] at hq
      cases hq
    have e2 : va_up f xm (.inr (7, (mF b M).set j (.int x))) q = f q := by simp [va_up, hqk]
    rw [e2]
    exact h5 q hq
theorem ZR.self {κ : Kx} {xm : Nat} {b : Nat → Nat} {M : MS} {L : List Nat} {f0 f : Nat → va_E} (h : ZR κ xm b M L f0 f) : ZR κ xm b M L f f := ⟨h.1, h.2.1, h.2.2.1, fun _ _ => rfl⟩
theorem ZR.trans {κ : Kx} {xm : Nat} {b : Nat → Nat} {M M1 : MS} {L : List Nat} {f0 f f1 : Nat → va_E} (h : ZR κ xm b M L f0 f) (h1 : ZR κ xm b M1 L f f1) : ZR κ xm b M1 L f0 f1 :=
  ⟨h1.1, h1.2.1, h1.2.2.1, fun q hq => by
    have e := h.2.2.2 q hq
    exact (h1.2.2.2 q (by rw [e]; exact hq)).trans e⟩
section RROWS
variable {p : Program} {l : Launch} {e : Env} {R : Room} {s : State} {m : MethodId} {args : Array Value} {below : List Frame} {meth : Method} {c : Code} {H : Heap} {locs : List Loc} {cells slots : Nat} {Q : State → Prop}
variable {κ : Kx} {L : List Nat} {f0 f : Nat → va_E} {cc : ByteArray} {pc nL : Nat} {ls : Array Slot} {rest : List Value} {Ts : List Cond} {xm : Nat} {b : Nat → Nat} {M : MS}
theorem r_get (S : CallFix p m c cc nL s args Ts RX6) (hh : HH κ L f s H locs) (hz : ZR κ xm b M L f0 f) (hin : ∀ w ∈ wsX60, w ∈ Ts) (k : Nat) (hk : k < 22) {v : Value} {index : Nat} (hv : (mF b M)[k]? = some v) (hT : (TX6 k).1 = RX6) (hlink : Cond.fieldLink RX6 index RX6 (TX6 k).2.1 (TX6 k).2.2.1 ∈ Ts) (hdg : decode cc pc = .ok (.getfield index, 3))
    (kk : W p l e R s m args below meth c H locs cells slots Q (F0 m (pc + 3) ls (v :: rest))) : W p l e R s m args below meth c H locs cells slots Q (F0 m pc ls (.ref xm :: rest)) :=
  h_get S.1 S.2.1 S.2.2.2.2 S.2.2.2.1 hh hz.1.1 hz.1.2 (C := RX6) (T := TX6) (N := 22) rfl hin k hk (S.2.2.2.2 _ hlink) (fun x h => by rw [hT] at h; exact h) hv hdg kk
theorem r_put (S : CallFix p m c cc nL s args Ts RX6) (hh : HH κ L f s H locs) (hz : ZR κ xm b M L f0 f) (hin : ∀ w ∈ wsX60, w ∈ Ts) (j : Nat) (hj : 15 ≤ j ∧ j < 22) {x : Int32} {index : Nat} (hT : (TX6 j).1 = RX6) (hfin : (TX6 j).2.2.2 = false) (hty : tyX6 j = .int) (hlink : Cond.fieldLink RX6 index RX6 (TX6 j).2.1 (TX6 j).2.2.1 ∈ Ts) (hdg : decode cc pc = .ok (.putfield index, 3))
    (kk : ∀ (f1 : Nat → va_E) (H1 : Heap) (locs1 : List Loc), HH κ L f1 s H1 locs1 → ZR κ xm b (scM M j x) L f0 f1 → W p l e R s m args below meth c H1 locs1 cells slots Q (F0 m (pc + 3) ls rest)) : W p l e R s m args below meth c H locs cells slots Q (F0 m pc ls (.int x :: .ref xm :: rest)) :=
  h_put S.1 S.2.1 S.2.2.2.2 S.2.2.2.1 hh hz.1.1 hz.1.2 (C := RX6) (T := TX6) (N := 22) rfl hin tyX6 tyX6_ok nmX6 j hj.2 (S.2.2.2.2 _ hlink) (fun y h => by rw [hT] at h; exact h) hfin (ty := .int) hty rfl rfl (by rw [show (mF b M).length = 22 from rfl]; exact hj.2) hdg (fun H1 locs1 h1 => kk _ H1 locs1 h1 (hz.putF hj x))
theorem r_ald (S : CallFix p m c cc nL s args Ts RX6) (hh : HH κ L f s H locs) (hz : ZR κ xm b M L f0 f) {k i : Nat} {v : Int32} (hk : k < 15) (hv : v = nI i) (hi : i < lenM k) (hdg : decode cc pc = .ok (.iaload, 1))
    (kk : W p l e R s m args below meth c H locs cells slots Q (F0 m (pc + 1) ls (.int (M k i) :: rest))) : W p l e R s m args below meth c H locs cells slots Q (F0 m pc ls (.int v :: .ref (b k) :: rest)) := by
  subst hv
  have e : (nI i).toNatClampNeg = i := nI_clamp (Nat.lt_trans hi (lenM_lt k))
  exact h_iald S.1 S.2.1 hh (hz.2.1 k hk).1 (hz.2.1 k hk).2 (vp_in_nI hi (lenM_lt k)) hdg (by rw [e]; exact kk)
theorem r_ast (S : CallFix p m c cc nL s args Ts RX6) (hh : HH κ L f s H locs) (hz : ZR κ xm b M L f0 f) {k i : Nat} {v x : Int32} (hk : k < 15) (hv : v = nI i) (hi : i < lenM k) (hdg : decode cc pc = .ok (.iastore, 1))
    (kk : ∀ (f1 : Nat → va_E) (H1 : Heap) (locs1 : List Loc), HH κ L f1 s H1 locs1 → ZR κ xm b (stM M k i x) L f0 f1 → W p l e R s m args below meth c H1 locs1 cells slots Q (F0 m (pc + 1) ls rest)) : W p l e R s m args below meth c H locs cells slots Q (F0 m pc ls (.int x :: .int v :: .ref (b k) :: rest)) := by
  subst hv
  have e : (nI i).toNatClampNeg = i := nI_clamp (Nat.lt_trans hi (lenM_lt k))
  exact h_iast S.1 S.2.1 hh (hz.2.1 k hk).1 (hz.2.1 k hk).2 (vp_in_nI hi (lenM_lt k)) hdg (fun H1 locs1 h1 => by
    rw [e] at h1
    exact kk _ H1 locs1 h1 (hz.putA hk _))
end RROWS
end
section
theorem dX6_init_0 : decode cX6_init 0 = .ok (.aload_n 0, 1) := by decide +kernel
theorem dX6_init_1 : decode cX6_init 1 = .ok (.invokespecial 1, 3) := by decide +kernel
theorem dX6_init_4 : decode cX6_init 4 = .ok (.aload_n 0, 1) := by decide +kernel
theorem dX6_init_5 : decode cX6_init 5 = .ok (.iconst 3, 1) := by decide +kernel
theorem dX6_init_6 : decode cX6_init 6 = .ok (.newarray .int, 2) := by decide +kernel
theorem dX6_init_8 : decode cX6_init 8 = .ok (.putfield 7, 3) := by decide +kernel
theorem dX6_init_11 : decode cX6_init 11 = .ok (.aload_n 0, 1) := by decide +kernel
theorem dX6_init_12 : decode cX6_init 12 = .ok (.bipush 6, 2) := by decide +kernel
theorem dX6_init_14 : decode cX6_init 14 = .ok (.newarray .int, 2) := by decide +kernel
theorem dX6_init_16 : decode cX6_init 16 = .ok (.putfield 13, 3) := by decide +kernel
theorem dX6_init_19 : decode cX6_init 19 = .ok (.aload_n 0, 1) := by decide +kernel
theorem dX6_init_20 : decode cX6_init 20 = .ok (.bipush 6, 2) := by decide +kernel
theorem dX6_init_22 : decode cX6_init 22 = .ok (.newarray .int, 2) := by decide +kernel
theorem dX6_init_24 : decode cX6_init 24 = .ok (.putfield 16, 3) := by decide +kernel
theorem dX6_init_27 : decode cX6_init 27 = .ok (.aload_n 0, 1) := by decide +kernel
theorem dX6_init_28 : decode cX6_init 28 = .ok (.bipush 6, 2) := by decide +kernel
theorem dX6_init_30 : decode cX6_init 30 = .ok (.newarray .int, 2) := by decide +kernel
theorem dX6_init_32 : decode cX6_init 32 = .ok (.putfield 19, 3) := by decide +kernel
theorem dX6_init_35 : decode cX6_init 35 = .ok (.aload_n 0, 1) := by decide +kernel
theorem dX6_init_36 : decode cX6_init 36 = .ok (.bipush 6, 2) := by decide +kernel
theorem dX6_init_38 : decode cX6_init 38 = .ok (.newarray .int, 2) := by decide +kernel
theorem dX6_init_40 : decode cX6_init 40 = .ok (.putfield 22, 3) := by decide +kernel
theorem dX6_init_43 : decode cX6_init 43 = .ok (.aload_n 0, 1) := by decide +kernel
theorem dX6_init_44 : decode cX6_init 44 = .ok (.bipush 6, 2) := by decide +kernel
theorem dX6_init_46 : decode cX6_init 46 = .ok (.newarray .int, 2) := by decide +kernel
theorem dX6_init_48 : decode cX6_init 48 = .ok (.putfield 25, 3) := by decide +kernel
theorem dX6_init_51 : decode cX6_init 51 = .ok (.aload_n 0, 1) := by decide +kernel
theorem dX6_init_52 : decode cX6_init 52 = .ok (.bipush 6, 2) := by decide +kernel
theorem dX6_init_54 : decode cX6_init 54 = .ok (.newarray .int, 2) := by decide +kernel
theorem dX6_init_56 : decode cX6_init 56 = .ok (.putfield 28, 3) := by decide +kernel
theorem dX6_init_59 : decode cX6_init 59 = .ok (.aload_n 0, 1) := by decide +kernel
theorem dX6_init_60 : decode cX6_init 60 = .ok (.bipush 6, 2) := by decide +kernel
theorem dX6_init_62 : decode cX6_init 62 = .ok (.newarray .int, 2) := by decide +kernel
theorem dX6_init_64 : decode cX6_init 64 = .ok (.putfield 31, 3) := by decide +kernel
theorem dX6_init_67 : decode cX6_init 67 = .ok (.aload_n 0, 1) := by decide +kernel
theorem dX6_init_68 : decode cX6_init 68 = .ok (.bipush 6, 2) := by decide +kernel
theorem dX6_init_70 : decode cX6_init 70 = .ok (.newarray .int, 2) := by decide +kernel
theorem dX6_init_72 : decode cX6_init 72 = .ok (.putfield 34, 3) := by decide +kernel
theorem dX6_init_75 : decode cX6_init 75 = .ok (.aload_n 0, 1) := by decide +kernel
theorem dX6_init_76 : decode cX6_init 76 = .ok (.bipush 6, 2) := by decide +kernel
theorem dX6_init_78 : decode cX6_init 78 = .ok (.newarray .int, 2) := by decide +kernel
theorem dX6_init_80 : decode cX6_init 80 = .ok (.putfield 37, 3) := by decide +kernel
theorem dX6_init_83 : decode cX6_init 83 = .ok (.aload_n 0, 1) := by decide +kernel
theorem dX6_init_84 : decode cX6_init 84 = .ok (.bipush 6, 2) := by decide +kernel
theorem dX6_init_86 : decode cX6_init 86 = .ok (.newarray .int, 2) := by decide +kernel
theorem dX6_init_88 : decode cX6_init 88 = .ok (.putfield 40, 3) := by decide +kernel
theorem dX6_init_91 : decode cX6_init 91 = .ok (.aload_n 0, 1) := by decide +kernel
theorem dX6_init_92 : decode cX6_init 92 = .ok (.bipush 6, 2) := by decide +kernel
theorem dX6_init_94 : decode cX6_init 94 = .ok (.newarray .int, 2) := by decide +kernel
theorem dX6_init_96 : decode cX6_init 96 = .ok (.putfield 43, 3) := by decide +kernel
theorem dX6_init_99 : decode cX6_init 99 = .ok (.aload_n 0, 1) := by decide +kernel
theorem dX6_init_100 : decode cX6_init 100 = .ok (.sipush 600, 3) := by decide +kernel
theorem dX6_init_103 : decode cX6_init 103 = .ok (.newarray .int, 2) := by decide +kernel
theorem dX6_init_105 : decode cX6_init 105 = .ok (.putfield 46, 3) := by decide +kernel
theorem dX6_init_108 : decode cX6_init 108 = .ok (.aload_n 0, 1) := by decide +kernel
theorem dX6_init_109 : decode cX6_init 109 = .ok (.sipush 600, 3) := by decide +kernel
theorem dX6_init_112 : decode cX6_init 112 = .ok (.newarray .int, 2) := by decide +kernel
theorem dX6_init_114 : decode cX6_init 114 = .ok (.putfield 49, 3) := by decide +kernel
theorem dX6_init_117 : decode cX6_init 117 = .ok (.aload_n 0, 1) := by decide +kernel
theorem dX6_init_118 : decode cX6_init 118 = .ok (.sipush 600, 3) := by decide +kernel
theorem dX6_init_121 : decode cX6_init 121 = .ok (.newarray .int, 2) := by decide +kernel
theorem dX6_init_123 : decode cX6_init 123 = .ok (.putfield 52, 3) := by decide +kernel
theorem dX6_init_126 : decode cX6_init 126 = .ok (.return_, 1) := by decide +kernel
theorem dX6_thrown_0 : decode cX6_thrown 0 = .ok (.aload_n 0, 1) := by decide +kernel
theorem dX6_thrown_1 : decode cX6_thrown 1 = .ok (.getfield 55, 3) := by decide +kernel
theorem dX6_thrown_4 : decode cX6_thrown 4 = .ok (.ireturn, 1) := by decide +kernel
theorem dX6_is_0 : decode cX6_is 0 = .ok (.iload_n 0, 1) := by decide +kernel
theorem dX6_is_1 : decode cX6_is 1 = .ok (.ifCond .lt 12, 3) := by decide +kernel
theorem dX6_is_4 : decode cX6_is 4 = .ok (.iload_n 0, 1) := by decide +kernel
theorem dX6_is_5 : decode cX6_is 5 = .ok (.iload_n 1, 1) := by decide +kernel
theorem dX6_is_6 : decode cX6_is 6 = .ok (.if_icmp .ge 7, 3) := by decide +kernel
theorem dX6_is_9 : decode cX6_is 9 = .ok (.iconst 1, 1) := by decide +kernel
theorem dX6_is_10 : decode cX6_is 10 = .ok (.goto 4, 3) := by decide +kernel
theorem dX6_is_13 : decode cX6_is 13 = .ok (.iconst 0, 1) := by decide +kernel
theorem dX6_is_14 : decode cX6_is 14 = .ok (.ireturn, 1) := by decide +kernel
theorem dX6_least_0 : decode cX6_least 0 = .ok (.iload_n 0, 1) := by decide +kernel
theorem dX6_least_1 : decode cX6_least 1 = .ok (.iload_n 1, 1) := by decide +kernel
theorem dX6_least_2 : decode cX6_least 2 = .ok (.if_icmp .ge 7, 3) := by decide +kernel
theorem dX6_least_5 : decode cX6_least 5 = .ok (.iload_n 0, 1) := by decide +kernel
theorem dX6_least_6 : decode cX6_least 6 = .ok (.goto 4, 3) := by decide +kernel
theorem dX6_least_9 : decode cX6_least 9 = .ok (.iload_n 1, 1) := by decide +kernel
theorem dX6_least_10 : decode cX6_least 10 = .ok (.ireturn, 1) := by decide +kernel
theorem dX6_many_0 : decode cX6_many 0 = .ok (.iconst 0, 1) := by decide +kernel
theorem dX6_many_1 : decode cX6_many 1 = .ok (.istore_n 2, 1) := by decide +kernel
theorem dX6_many_2 : decode cX6_many 2 = .ok (.iconst 0, 1) := by decide +kernel
theorem dX6_many_3 : decode cX6_many 3 = .ok (.istore_n 3, 1) := by decide +kernel
theorem dX6_many_4 : decode cX6_many 4 = .ok (.iload_n 3, 1) := by decide +kernel
theorem dX6_many_5 : decode cX6_many 5 = .ok (.aload_n 0, 1) := by decide +kernel
theorem dX6_many_6 : decode cX6_many 6 = .ok (.getfield 59, 3) := by decide +kernel
theorem dX6_many_9 : decode cX6_many 9 = .ok (.if_icmp .ge 27, 3) := by decide +kernel
theorem dX6_many_12 : decode cX6_many 12 = .ok (.iload_n 2, 1) := by decide +kernel
theorem dX6_many_13 : decode cX6_many 13 = .ok (.aload_n 0, 1) := by decide +kernel
theorem dX6_many_14 : decode cX6_many 14 = .ok (.getfield 52, 3) := by decide +kernel
theorem dX6_many_17 : decode cX6_many 17 = .ok (.iload_n 3, 1) := by decide +kernel
theorem dX6_many_18 : decode cX6_many 18 = .ok (.iaload, 1) := by decide +kernel
theorem dX6_many_19 : decode cX6_many 19 = .ok (.iload_n 1, 1) := by decide +kernel
theorem dX6_many_20 : decode cX6_many 20 = .ok (.if_icmp .ne 7, 3) := by decide +kernel
theorem dX6_many_23 : decode cX6_many 23 = .ok (.iconst 1, 1) := by decide +kernel
theorem dX6_many_24 : decode cX6_many 24 = .ok (.goto 4, 3) := by decide +kernel
theorem dX6_many_27 : decode cX6_many 27 = .ok (.iconst 0, 1) := by decide +kernel
theorem dX6_many_28 : decode cX6_many 28 = .ok (.iadd, 1) := by decide +kernel
theorem dX6_many_29 : decode cX6_many 29 = .ok (.istore_n 2, 1) := by decide +kernel
theorem dX6_many_30 : decode cX6_many 30 = .ok (.iinc 3 1, 3) := by decide +kernel
theorem dX6_many_33 : decode cX6_many 33 = .ok (.goto (-29), 3) := by decide +kernel
theorem dX6_many_36 : decode cX6_many 36 = .ok (.iload_n 2, 1) := by decide +kernel
theorem dX6_many_37 : decode cX6_many 37 = .ok (.ireturn, 1) := by decide +kernel
theorem dX6_hulk_0 : decode cX6_hulk 0 = .ok (.aload_n 0, 1) := by decide +kernel
theorem dX6_hulk_1 : decode cX6_hulk 1 = .ok (.iload_n 1, 1) := by decide +kernel
theorem dX6_hulk_2 : decode cX6_hulk 2 = .ok (.ifCond .lt 10, 3) := by decide +kernel
theorem dX6_hulk_5 : decode cX6_hulk 5 = .ok (.iload_n 1, 1) := by decide +kernel
theorem dX6_hulk_6 : decode cX6_hulk 6 = .ok (.sipush 20000, 3) := by decide +kernel
theorem dX6_hulk_9 : decode cX6_hulk 9 = .ok (.if_icmp .le 7, 3) := by decide +kernel
theorem dX6_hulk_12 : decode cX6_hulk 12 = .ok (.iconst 1, 1) := by decide +kernel
theorem dX6_hulk_13 : decode cX6_hulk 13 = .ok (.goto 16, 3) := by decide +kernel
theorem dX6_hulk_16 : decode cX6_hulk 16 = .ok (.aload_n 0, 1) := by decide +kernel
theorem dX6_hulk_17 : decode cX6_hulk 17 = .ok (.getfield 62, 3) := by decide +kernel
theorem dX6_hulk_20 : decode cX6_hulk 20 = .ok (.iconst 3, 1) := by decide +kernel
theorem dX6_hulk_21 : decode cX6_hulk 21 = .ok (.if_icmp .ne 7, 3) := by decide +kernel
theorem dX6_hulk_24 : decode cX6_hulk 24 = .ok (.iconst 2, 1) := by decide +kernel
theorem dX6_hulk_25 : decode cX6_hulk 25 = .ok (.goto 4, 3) := by decide +kernel
theorem dX6_hulk_28 : decode cX6_hulk 28 = .ok (.iconst 0, 1) := by decide +kernel
theorem dX6_hulk_29 : decode cX6_hulk 29 = .ok (.putfield 55, 3) := by decide +kernel
theorem dX6_hulk_32 : decode cX6_hulk 32 = .ok (.aload_n 0, 1) := by decide +kernel
theorem dX6_hulk_33 : decode cX6_hulk 33 = .ok (.getfield 55, 3) := by decide +kernel
theorem dX6_hulk_36 : decode cX6_hulk 36 = .ok (.ifCond .eq 5, 3) := by decide +kernel
theorem dX6_hulk_39 : decode cX6_hulk 39 = .ok (.iconst 0, 1) := by decide +kernel
theorem dX6_hulk_40 : decode cX6_hulk 40 = .ok (.ireturn, 1) := by decide +kernel
theorem dX6_hulk_41 : decode cX6_hulk 41 = .ok (.aload_n 0, 1) := by decide +kernel
theorem dX6_hulk_42 : decode cX6_hulk 42 = .ok (.getfield 7, 3) := by decide +kernel
theorem dX6_hulk_45 : decode cX6_hulk 45 = .ok (.aload_n 0, 1) := by decide +kernel
theorem dX6_hulk_46 : decode cX6_hulk 46 = .ok (.getfield 62, 3) := by decide +kernel
theorem dX6_hulk_49 : decode cX6_hulk 49 = .ok (.iload_n 1, 1) := by decide +kernel
theorem dX6_hulk_50 : decode cX6_hulk 50 = .ok (.iastore, 1) := by decide +kernel
theorem dX6_hulk_51 : decode cX6_hulk 51 = .ok (.aload_n 0, 1) := by decide +kernel
theorem dX6_hulk_52 : decode cX6_hulk 52 = .ok (.dup, 1) := by decide +kernel
theorem dX6_hulk_53 : decode cX6_hulk 53 = .ok (.getfield 62, 3) := by decide +kernel
theorem dX6_hulk_56 : decode cX6_hulk 56 = .ok (.iconst 1, 1) := by decide +kernel
theorem dX6_hulk_57 : decode cX6_hulk 57 = .ok (.iadd, 1) := by decide +kernel
theorem dX6_hulk_58 : decode cX6_hulk 58 = .ok (.putfield 62, 3) := by decide +kernel
theorem dX6_hulk_61 : decode cX6_hulk 61 = .ok (.aload_n 0, 1) := by decide +kernel
theorem dX6_hulk_62 : decode cX6_hulk 62 = .ok (.getfield 62, 3) := by decide +kernel
theorem dX6_hulk_65 : decode cX6_hulk 65 = .ok (.iconst 1, 1) := by decide +kernel
theorem dX6_hulk_66 : decode cX6_hulk 66 = .ok (.isub, 1) := by decide +kernel
theorem dX6_hulk_67 : decode cX6_hulk 67 = .ok (.ireturn, 1) := by decide +kernel
theorem dX6_lighter_0 : decode cX6_lighter 0 = .ok (.aload_n 0, 1) := by decide +kernel
theorem dX6_lighter_1 : decode cX6_lighter 1 = .ok (.iload_n 1, 1) := by decide +kernel
theorem dX6_lighter_2 : decode cX6_lighter 2 = .ok (.bipush 20, 2) := by decide +kernel
theorem dX6_lighter_4 : decode cX6_lighter 4 = .ok (.if_icmp .lt 10, 3) := by decide +kernel
theorem dX6_lighter_7 : decode cX6_lighter 7 = .ok (.iload_n 1, 1) := by decide +kernel
theorem dX6_lighter_8 : decode cX6_lighter 8 = .ok (.sipush 500, 3) := by decide +kernel
theorem dX6_lighter_11 : decode cX6_lighter 11 = .ok (.if_icmp .le 7, 3) := by decide +kernel
theorem dX6_lighter_14 : decode cX6_lighter 14 = .ok (.iconst 1, 1) := by decide +kernel
theorem dX6_lighter_15 : decode cX6_lighter 15 = .ok (.goto 24, 3) := by decide +kernel
theorem dX6_lighter_18 : decode cX6_lighter 18 = .ok (.aload_n 0, 1) := by decide +kernel
theorem dX6_lighter_19 : decode cX6_lighter 19 = .ok (.getfield 65, 3) := by decide +kernel
theorem dX6_lighter_22 : decode cX6_lighter 22 = .ok (.bipush 6, 2) := by decide +kernel
theorem dX6_lighter_24 : decode cX6_lighter 24 = .ok (.if_icmp .eq 10, 3) := by decide +kernel
theorem dX6_lighter_27 : decode cX6_lighter 27 = .ok (.aload_n 0, 1) := by decide +kernel
theorem dX6_lighter_28 : decode cX6_lighter 28 = .ok (.getfield 62, 3) := by decide +kernel
theorem dX6_lighter_31 : decode cX6_lighter 31 = .ok (.ifCond .ne 7, 3) := by decide +kernel
theorem dX6_lighter_34 : decode cX6_lighter 34 = .ok (.iconst 2, 1) := by decide +kernel
theorem dX6_lighter_35 : decode cX6_lighter 35 = .ok (.goto 4, 3) := by decide +kernel
theorem dX6_lighter_38 : decode cX6_lighter 38 = .ok (.iconst 0, 1) := by decide +kernel
theorem dX6_lighter_39 : decode cX6_lighter 39 = .ok (.putfield 55, 3) := by decide +kernel
theorem dX6_lighter_42 : decode cX6_lighter 42 = .ok (.aload_n 0, 1) := by decide +kernel
theorem dX6_lighter_43 : decode cX6_lighter 43 = .ok (.getfield 55, 3) := by decide +kernel
theorem dX6_lighter_46 : decode cX6_lighter 46 = .ok (.ifCond .eq 5, 3) := by decide +kernel
theorem dX6_lighter_49 : decode cX6_lighter 49 = .ok (.iconst 0, 1) := by decide +kernel
theorem dX6_lighter_50 : decode cX6_lighter 50 = .ok (.ireturn, 1) := by decide +kernel
theorem dX6_lighter_51 : decode cX6_lighter 51 = .ok (.aload_n 0, 1) := by decide +kernel
theorem dX6_lighter_52 : decode cX6_lighter 52 = .ok (.getfield 13, 3) := by decide +kernel
theorem dX6_lighter_55 : decode cX6_lighter 55 = .ok (.aload_n 0, 1) := by decide +kernel
theorem dX6_lighter_56 : decode cX6_lighter 56 = .ok (.getfield 65, 3) := by decide +kernel
theorem dX6_lighter_59 : decode cX6_lighter 59 = .ok (.iload_n 1, 1) := by decide +kernel
theorem dX6_lighter_60 : decode cX6_lighter 60 = .ok (.iastore, 1) := by decide +kernel
theorem dX6_lighter_61 : decode cX6_lighter 61 = .ok (.aload_n 0, 1) := by decide +kernel
theorem dX6_lighter_62 : decode cX6_lighter 62 = .ok (.getfield 28, 3) := by decide +kernel
theorem dX6_lighter_65 : decode cX6_lighter 65 = .ok (.aload_n 0, 1) := by decide +kernel
theorem dX6_lighter_66 : decode cX6_lighter 66 = .ok (.getfield 65, 3) := by decide +kernel
theorem dX6_lighter_69 : decode cX6_lighter 69 = .ok (.iconst (-1), 1) := by decide +kernel
theorem dX6_lighter_70 : decode cX6_lighter 70 = .ok (.iastore, 1) := by decide +kernel
theorem dX6_lighter_71 : decode cX6_lighter 71 = .ok (.aload_n 0, 1) := by decide +kernel
theorem dX6_lighter_72 : decode cX6_lighter 72 = .ok (.dup, 1) := by decide +kernel
theorem dX6_lighter_73 : decode cX6_lighter 73 = .ok (.getfield 65, 3) := by decide +kernel
theorem dX6_lighter_76 : decode cX6_lighter 76 = .ok (.iconst 1, 1) := by decide +kernel
theorem dX6_lighter_77 : decode cX6_lighter 77 = .ok (.iadd, 1) := by decide +kernel
theorem dX6_lighter_78 : decode cX6_lighter 78 = .ok (.putfield 65, 3) := by decide +kernel
theorem dX6_lighter_81 : decode cX6_lighter 81 = .ok (.aload_n 0, 1) := by decide +kernel
theorem dX6_lighter_82 : decode cX6_lighter 82 = .ok (.getfield 65, 3) := by decide +kernel
theorem dX6_lighter_85 : decode cX6_lighter 85 = .ok (.iconst 1, 1) := by decide +kernel
theorem dX6_lighter_86 : decode cX6_lighter 86 = .ok (.isub, 1) := by decide +kernel
theorem dX6_lighter_87 : decode cX6_lighter 87 = .ok (.ireturn, 1) := by decide +kernel
theorem dX6_gang_0 : decode cX6_gang 0 = .ok (.aload_n 0, 1) := by decide +kernel
theorem dX6_gang_1 : decode cX6_gang 1 = .ok (.iload_n 1, 1) := by decide +kernel
theorem dX6_gang_2 : decode cX6_gang 2 = .ok (.iconst 1, 1) := by decide +kernel
theorem dX6_gang_3 : decode cX6_gang 3 = .ok (.if_icmp .lt 9, 3) := by decide +kernel
theorem dX6_gang_6 : decode cX6_gang 6 = .ok (.iload_n 1, 1) := by decide +kernel
theorem dX6_gang_7 : decode cX6_gang 7 = .ok (.bipush 20, 2) := by decide +kernel
theorem dX6_gang_9 : decode cX6_gang 9 = .ok (.if_icmp .le 7, 3) := by decide +kernel
theorem dX6_gang_12 : decode cX6_gang 12 = .ok (.iconst 1, 1) := by decide +kernel
theorem dX6_gang_13 : decode cX6_gang 13 = .ok (.goto 17, 3) := by decide +kernel
theorem dX6_gang_16 : decode cX6_gang 16 = .ok (.aload_n 0, 1) := by decide +kernel
theorem dX6_gang_17 : decode cX6_gang 17 = .ok (.getfield 68, 3) := by decide +kernel
theorem dX6_gang_20 : decode cX6_gang 20 = .ok (.bipush 6, 2) := by decide +kernel
theorem dX6_gang_22 : decode cX6_gang 22 = .ok (.if_icmp .ne 7, 3) := by decide +kernel
theorem dX6_gang_25 : decode cX6_gang 25 = .ok (.iconst 2, 1) := by decide +kernel
theorem dX6_gang_26 : decode cX6_gang 26 = .ok (.goto 4, 3) := by decide +kernel
theorem dX6_gang_29 : decode cX6_gang 29 = .ok (.iconst 0, 1) := by decide +kernel
theorem dX6_gang_30 : decode cX6_gang 30 = .ok (.putfield 55, 3) := by decide +kernel
theorem dX6_gang_33 : decode cX6_gang 33 = .ok (.aload_n 0, 1) := by decide +kernel
theorem dX6_gang_34 : decode cX6_gang 34 = .ok (.getfield 55, 3) := by decide +kernel
theorem dX6_gang_37 : decode cX6_gang 37 = .ok (.ifCond .eq 5, 3) := by decide +kernel
theorem dX6_gang_40 : decode cX6_gang 40 = .ok (.iconst 0, 1) := by decide +kernel
theorem dX6_gang_41 : decode cX6_gang 41 = .ok (.ireturn, 1) := by decide +kernel
theorem dX6_gang_42 : decode cX6_gang 42 = .ok (.aload_n 0, 1) := by decide +kernel
theorem dX6_gang_43 : decode cX6_gang 43 = .ok (.getfield 37, 3) := by decide +kernel
theorem dX6_gang_46 : decode cX6_gang 46 = .ok (.aload_n 0, 1) := by decide +kernel
theorem dX6_gang_47 : decode cX6_gang 47 = .ok (.getfield 68, 3) := by decide +kernel
theorem dX6_gang_50 : decode cX6_gang 50 = .ok (.iload_n 1, 1) := by decide +kernel
theorem dX6_gang_51 : decode cX6_gang 51 = .ok (.iastore, 1) := by decide +kernel
theorem dX6_gang_52 : decode cX6_gang 52 = .ok (.aload_n 0, 1) := by decide +kernel
theorem dX6_gang_53 : decode cX6_gang 53 = .ok (.dup, 1) := by decide +kernel
theorem dX6_gang_54 : decode cX6_gang 54 = .ok (.getfield 68, 3) := by decide +kernel
theorem dX6_gang_57 : decode cX6_gang 57 = .ok (.iconst 1, 1) := by decide +kernel
theorem dX6_gang_58 : decode cX6_gang 58 = .ok (.iadd, 1) := by decide +kernel
theorem dX6_gang_59 : decode cX6_gang 59 = .ok (.putfield 68, 3) := by decide +kernel
theorem dX6_gang_62 : decode cX6_gang 62 = .ok (.aload_n 0, 1) := by decide +kernel
theorem dX6_gang_63 : decode cX6_gang 63 = .ok (.getfield 68, 3) := by decide +kernel
theorem dX6_gang_66 : decode cX6_gang 66 = .ok (.iconst 1, 1) := by decide +kernel
theorem dX6_gang_67 : decode cX6_gang 67 = .ok (.isub, 1) := by decide +kernel
theorem dX6_gang_68 : decode cX6_gang 68 = .ok (.ireturn, 1) := by decide +kernel
set_option maxRecDepth 20000 in
theorem ggX6_steamer_X6_many : GoodIn wsX6_steamer wsX6_many := goodIn_r _ [10, 3, 11, 12, 13, 14, 15, 16, 17, 18, 19, 20, 21, 22, 23, 24, 25, 26, 27, 28, 29, 30, 31, 32, 33] (by decide +kernel) (by decide +kernel)
set_option maxRecDepth 20000 in
theorem gX6_steamer_X6_many : GoodIn wsX6_steamer (wsV RX6 71 RX6 yX6_many wsX6_many) := goodIn_app (goodIn_of _ (by decide +kernel)) ggX6_steamer_X6_many
theorem dX6_steamer_0 : decode cX6_steamer 0 = .ok (.aload_n 0, 1) := by decide +kernel
theorem dX6_steamer_1 : decode cX6_steamer 1 = .ok (.iload_n 1, 1) := by decide +kernel
theorem dX6_steamer_2 : decode cX6_steamer 2 = .ok (.iconst 1, 1) := by decide +kernel
theorem dX6_steamer_3 : decode cX6_steamer 3 = .ok (.if_icmp .lt 22, 3) := by decide +kernel
theorem dX6_steamer_6 : decode cX6_steamer 6 = .ok (.iload_n 1, 1) := by decide +kernel
theorem dX6_steamer_7 : decode cX6_steamer 7 = .ok (.sipush 9999, 3) := by decide +kernel
theorem dX6_steamer_10 : decode cX6_steamer 10 = .ok (.if_icmp .gt 15, 3) := by decide +kernel
theorem dX6_steamer_13 : decode cX6_steamer 13 = .ok (.iload_n 2, 1) := by decide +kernel
theorem dX6_steamer_14 : decode cX6_steamer 14 = .ok (.iconst 1, 1) := by decide +kernel
theorem dX6_steamer_15 : decode cX6_steamer 15 = .ok (.if_icmp .lt 10, 3) := by decide +kernel
theorem dX6_steamer_18 : decode cX6_steamer 18 = .ok (.iload_n 2, 1) := by decide +kernel
theorem dX6_steamer_19 : decode cX6_steamer 19 = .ok (.sipush 500, 3) := by decide +kernel
theorem dX6_steamer_22 : decode cX6_steamer 22 = .ok (.if_icmp .le 7, 3) := by decide +kernel
theorem dX6_steamer_25 : decode cX6_steamer 25 = .ok (.iconst 1, 1) := by decide +kernel
theorem dX6_steamer_26 : decode cX6_steamer 26 = .ok (.goto 18, 3) := by decide +kernel
theorem dX6_steamer_29 : decode cX6_steamer 29 = .ok (.aload_n 0, 1) := by decide +kernel
theorem dX6_steamer_30 : decode cX6_steamer 30 = .ok (.iconst 0, 1) := by decide +kernel
theorem dX6_steamer_31 : decode cX6_steamer 31 = .ok (.invokevirtual 71, 3) := by decide +kernel
theorem dX6_steamer_34 : decode cX6_steamer 34 = .ok (.bipush 8, 2) := by decide +kernel
theorem dX6_steamer_36 : decode cX6_steamer 36 = .ok (.if_icmp .ne 7, 3) := by decide +kernel
theorem dX6_steamer_39 : decode cX6_steamer 39 = .ok (.iconst 2, 1) := by decide +kernel
theorem dX6_steamer_40 : decode cX6_steamer 40 = .ok (.goto 4, 3) := by decide +kernel
theorem dX6_steamer_43 : decode cX6_steamer 43 = .ok (.iconst 0, 1) := by decide +kernel
theorem dX6_steamer_44 : decode cX6_steamer 44 = .ok (.putfield 55, 3) := by decide +kernel
theorem dX6_steamer_47 : decode cX6_steamer 47 = .ok (.aload_n 0, 1) := by decide +kernel
theorem dX6_steamer_48 : decode cX6_steamer 48 = .ok (.getfield 55, 3) := by decide +kernel
theorem dX6_steamer_51 : decode cX6_steamer 51 = .ok (.ifCond .eq 5, 3) := by decide +kernel
theorem dX6_steamer_54 : decode cX6_steamer 54 = .ok (.iconst 0, 1) := by decide +kernel
theorem dX6_steamer_55 : decode cX6_steamer 55 = .ok (.ireturn, 1) := by decide +kernel
theorem dX6_steamer_56 : decode cX6_steamer 56 = .ok (.aload_n 0, 1) := by decide +kernel
theorem dX6_steamer_57 : decode cX6_steamer 57 = .ok (.getfield 46, 3) := by decide +kernel
theorem dX6_steamer_60 : decode cX6_steamer 60 = .ok (.aload_n 0, 1) := by decide +kernel
theorem dX6_steamer_61 : decode cX6_steamer 61 = .ok (.getfield 59, 3) := by decide +kernel
theorem dX6_steamer_64 : decode cX6_steamer 64 = .ok (.iload_n 1, 1) := by decide +kernel
theorem dX6_steamer_65 : decode cX6_steamer 65 = .ok (.iastore, 1) := by decide +kernel
theorem dX6_steamer_66 : decode cX6_steamer 66 = .ok (.aload_n 0, 1) := by decide +kernel
theorem dX6_steamer_67 : decode cX6_steamer 67 = .ok (.getfield 49, 3) := by decide +kernel
theorem dX6_steamer_70 : decode cX6_steamer 70 = .ok (.aload_n 0, 1) := by decide +kernel
theorem dX6_steamer_71 : decode cX6_steamer 71 = .ok (.getfield 59, 3) := by decide +kernel
theorem dX6_steamer_74 : decode cX6_steamer 74 = .ok (.aload_n 0, 1) := by decide +kernel
theorem dX6_steamer_75 : decode cX6_steamer 75 = .ok (.getfield 75, 3) := by decide +kernel
theorem dX6_steamer_78 : decode cX6_steamer 78 = .ok (.iload_n 2, 1) := by decide +kernel
theorem dX6_steamer_79 : decode cX6_steamer 79 = .ok (.iadd, 1) := by decide +kernel
theorem dX6_steamer_80 : decode cX6_steamer 80 = .ok (.iastore, 1) := by decide +kernel
theorem dX6_steamer_81 : decode cX6_steamer 81 = .ok (.aload_n 0, 1) := by decide +kernel
theorem dX6_steamer_82 : decode cX6_steamer 82 = .ok (.dup, 1) := by decide +kernel
theorem dX6_steamer_83 : decode cX6_steamer 83 = .ok (.getfield 59, 3) := by decide +kernel
theorem dX6_steamer_86 : decode cX6_steamer 86 = .ok (.iconst 1, 1) := by decide +kernel
theorem dX6_steamer_87 : decode cX6_steamer 87 = .ok (.iadd, 1) := by decide +kernel
theorem dX6_steamer_88 : decode cX6_steamer 88 = .ok (.putfield 59, 3) := by decide +kernel
theorem dX6_steamer_91 : decode cX6_steamer 91 = .ok (.aload_n 0, 1) := by decide +kernel
theorem dX6_steamer_92 : decode cX6_steamer 92 = .ok (.getfield 59, 3) := by decide +kernel
theorem dX6_steamer_95 : decode cX6_steamer 95 = .ok (.iconst 1, 1) := by decide +kernel
theorem dX6_steamer_96 : decode cX6_steamer 96 = .ok (.isub, 1) := by decide +kernel
theorem dX6_steamer_97 : decode cX6_steamer 97 = .ok (.ireturn, 1) := by decide +kernel
theorem dX6_isBusy_0 : decode cX6_isBusy 0 = .ok (.aload_n 0, 1) := by decide +kernel
theorem dX6_isBusy_1 : decode cX6_isBusy 1 = .ok (.getfield 43, 3) := by decide +kernel
theorem dX6_isBusy_4 : decode cX6_isBusy 4 = .ok (.iload_n 1, 1) := by decide +kernel
theorem dX6_isBusy_5 : decode cX6_isBusy 5 = .ok (.iaload, 1) := by decide +kernel
theorem dX6_isBusy_6 : decode cX6_isBusy 6 = .ok (.ifCond .le 7, 3) := by decide +kernel
theorem dX6_isBusy_9 : decode cX6_isBusy 9 = .ok (.iconst 1, 1) := by decide +kernel
theorem dX6_isBusy_10 : decode cX6_isBusy 10 = .ok (.goto 4, 3) := by decide +kernel
theorem dX6_isBusy_13 : decode cX6_isBusy 13 = .ok (.iconst 0, 1) := by decide +kernel
theorem dX6_isBusy_14 : decode cX6_isBusy 14 = .ok (.istore_n 2, 1) := by decide +kernel
theorem dX6_isBusy_15 : decode cX6_isBusy 15 = .ok (.iconst 0, 1) := by decide +kernel
theorem dX6_isBusy_16 : decode cX6_isBusy 16 = .ok (.istore_n 3, 1) := by decide +kernel
theorem dX6_isBusy_17 : decode cX6_isBusy 17 = .ok (.iload_n 3, 1) := by decide +kernel
theorem dX6_isBusy_18 : decode cX6_isBusy 18 = .ok (.aload_n 0, 1) := by decide +kernel
theorem dX6_isBusy_19 : decode cX6_isBusy 19 = .ok (.getfield 65, 3) := by decide +kernel
theorem dX6_isBusy_22 : decode cX6_isBusy 22 = .ok (.if_icmp .ge 29, 3) := by decide +kernel
theorem dX6_isBusy_25 : decode cX6_isBusy 25 = .ok (.iload_n 2, 1) := by decide +kernel
theorem dX6_isBusy_26 : decode cX6_isBusy 26 = .ok (.ifCond .ne 13, 3) := by decide +kernel
theorem dX6_isBusy_29 : decode cX6_isBusy 29 = .ok (.aload_n 0, 1) := by decide +kernel
theorem dX6_isBusy_30 : decode cX6_isBusy 30 = .ok (.getfield 28, 3) := by decide +kernel
theorem dX6_isBusy_33 : decode cX6_isBusy 33 = .ok (.iload_n 3, 1) := by decide +kernel
theorem dX6_isBusy_34 : decode cX6_isBusy 34 = .ok (.iaload, 1) := by decide +kernel
theorem dX6_isBusy_35 : decode cX6_isBusy 35 = .ok (.iload_n 1, 1) := by decide +kernel
theorem dX6_isBusy_36 : decode cX6_isBusy 36 = .ok (.if_icmp .ne 7, 3) := by decide +kernel
theorem dX6_isBusy_39 : decode cX6_isBusy 39 = .ok (.iconst 1, 1) := by decide +kernel
theorem dX6_isBusy_40 : decode cX6_isBusy 40 = .ok (.goto 4, 3) := by decide +kernel
theorem dX6_isBusy_43 : decode cX6_isBusy 43 = .ok (.iconst 0, 1) := by decide +kernel
theorem dX6_isBusy_44 : decode cX6_isBusy 44 = .ok (.istore_n 2, 1) := by decide +kernel
theorem dX6_isBusy_45 : decode cX6_isBusy 45 = .ok (.iinc 3 1, 3) := by decide +kernel
theorem dX6_isBusy_48 : decode cX6_isBusy 48 = .ok (.goto (-31), 3) := by decide +kernel
theorem dX6_isBusy_51 : decode cX6_isBusy 51 = .ok (.iload_n 2, 1) := by decide +kernel
theorem dX6_isBusy_52 : decode cX6_isBusy 52 = .ok (.ireturn, 1) := by decide +kernel
set_option maxRecDepth 20000 in
theorem ggX6_order_X6_is : GoodIn wsX6_order wsX6_is := goodIn_r _ [11] (by decide +kernel) (by decide +kernel)
set_option maxRecDepth 20000 in
theorem gX6_order_X6_is : GoodIn wsX6_order (va_wsS RX6 78 yX6_is wsX6_is) := goodIn_app (goodIn_of _ (by decide +kernel)) ggX6_order_X6_is
set_option maxRecDepth 20000 in
theorem ggX6_order_X6_isBusy : GoodIn wsX6_order wsX6_isBusy := goodIn_r _ [15, 16, 1, 5, 17, 18, 19, 20, 21, 22, 23, 24, 25, 26, 27, 28, 29, 30, 31, 32, 33, 34, 35, 36, 37, 38] (by decide +kernel) (by decide +kernel)
set_option maxRecDepth 20000 in
theorem gX6_order_X6_isBusy : GoodIn wsX6_order (wsV RX6 82 RX6 yX6_isBusy wsX6_isBusy) := goodIn_app (goodIn_of _ (by decide +kernel)) ggX6_order_X6_isBusy
theorem dX6_order_0 : decode cX6_order 0 = .ok (.iload_n 1, 1) := by decide +kernel
theorem dX6_order_1 : decode cX6_order 1 = .ok (.aload_n 0, 1) := by decide +kernel
theorem dX6_order_2 : decode cX6_order 2 = .ok (.getfield 65, 3) := by decide +kernel
theorem dX6_order_5 : decode cX6_order 5 = .ok (.invokestatic 78, 3) := by decide +kernel
theorem dX6_order_8 : decode cX6_order 8 = .ok (.ifCond .eq 25, 3) := by decide +kernel
theorem dX6_order_11 : decode cX6_order 11 = .ok (.iload_n 2, 1) := by decide +kernel
theorem dX6_order_12 : decode cX6_order 12 = .ok (.aload_n 0, 1) := by decide +kernel
theorem dX6_order_13 : decode cX6_order 13 = .ok (.getfield 68, 3) := by decide +kernel
theorem dX6_order_16 : decode cX6_order 16 = .ok (.invokestatic 78, 3) := by decide +kernel
theorem dX6_order_19 : decode cX6_order 19 = .ok (.ifCond .eq 14, 3) := by decide +kernel
theorem dX6_order_22 : decode cX6_order 22 = .ok (.iload_n 3, 1) := by decide +kernel
theorem dX6_order_23 : decode cX6_order 23 = .ok (.aload_n 0, 1) := by decide +kernel
theorem dX6_order_24 : decode cX6_order 24 = .ok (.getfield 59, 3) := by decide +kernel
theorem dX6_order_27 : decode cX6_order 27 = .ok (.invokestatic 78, 3) := by decide +kernel
theorem dX6_order_30 : decode cX6_order 30 = .ok (.ifCond .ne 9, 3) := by decide +kernel
theorem dX6_order_33 : decode cX6_order 33 = .ok (.aload_n 0, 1) := by decide +kernel
theorem dX6_order_34 : decode cX6_order 34 = .ok (.iconst 1, 1) := by decide +kernel
theorem dX6_order_35 : decode cX6_order 35 = .ok (.putfield 55, 3) := by decide +kernel
theorem dX6_order_38 : decode cX6_order 38 = .ok (.return_, 1) := by decide +kernel
theorem dX6_order_39 : decode cX6_order 39 = .ok (.aload_n 0, 1) := by decide +kernel
theorem dX6_order_40 : decode cX6_order 40 = .ok (.aload_n 0, 1) := by decide +kernel
theorem dX6_order_41 : decode cX6_order 41 = .ok (.getfield 28, 3) := by decide +kernel
theorem dX6_order_44 : decode cX6_order 44 = .ok (.iload_n 1, 1) := by decide +kernel
theorem dX6_order_45 : decode cX6_order 45 = .ok (.iaload, 1) := by decide +kernel
theorem dX6_order_46 : decode cX6_order 46 = .ok (.iconst (-1), 1) := by decide +kernel
theorem dX6_order_47 : decode cX6_order 47 = .ok (.if_icmp .ne 21, 3) := by decide +kernel
theorem dX6_order_50 : decode cX6_order 50 = .ok (.aload_n 0, 1) := by decide +kernel
theorem dX6_order_51 : decode cX6_order 51 = .ok (.iload_n 2, 1) := by decide +kernel
theorem dX6_order_52 : decode cX6_order 52 = .ok (.invokevirtual 82, 3) := by decide +kernel
theorem dX6_order_55 : decode cX6_order 55 = .ok (.ifCond .ne 13, 3) := by decide +kernel
theorem dX6_order_58 : decode cX6_order 58 = .ok (.aload_n 0, 1) := by decide +kernel
theorem dX6_order_59 : decode cX6_order 59 = .ok (.getfield 52, 3) := by decide +kernel
theorem dX6_order_62 : decode cX6_order 62 = .ok (.iload_n 3, 1) := by decide +kernel
theorem dX6_order_63 : decode cX6_order 63 = .ok (.iaload, 1) := by decide +kernel
theorem dX6_order_64 : decode cX6_order 64 = .ok (.iconst 1, 1) := by decide +kernel
theorem dX6_order_65 : decode cX6_order 65 = .ok (.if_icmp .le 7, 3) := by decide +kernel
theorem dX6_order_68 : decode cX6_order 68 = .ok (.iconst 2, 1) := by decide +kernel
theorem dX6_order_69 : decode cX6_order 69 = .ok (.goto 4, 3) := by decide +kernel
theorem dX6_order_72 : decode cX6_order 72 = .ok (.iconst 0, 1) := by decide +kernel
theorem dX6_order_73 : decode cX6_order 73 = .ok (.putfield 55, 3) := by decide +kernel
theorem dX6_order_76 : decode cX6_order 76 = .ok (.aload_n 0, 1) := by decide +kernel
theorem dX6_order_77 : decode cX6_order 77 = .ok (.getfield 55, 3) := by decide +kernel
theorem dX6_order_80 : decode cX6_order 80 = .ok (.ifCond .ne 17, 3) := by decide +kernel
theorem dX6_order_83 : decode cX6_order 83 = .ok (.aload_n 0, 1) := by decide +kernel
theorem dX6_order_84 : decode cX6_order 84 = .ok (.getfield 28, 3) := by decide +kernel
theorem dX6_order_87 : decode cX6_order 87 = .ok (.iload_n 1, 1) := by decide +kernel
theorem dX6_order_88 : decode cX6_order 88 = .ok (.iload_n 2, 1) := by decide +kernel
theorem dX6_order_89 : decode cX6_order 89 = .ok (.iastore, 1) := by decide +kernel
theorem dX6_order_90 : decode cX6_order 90 = .ok (.aload_n 0, 1) := by decide +kernel
theorem dX6_order_91 : decode cX6_order 91 = .ok (.getfield 31, 3) := by decide +kernel
theorem dX6_order_94 : decode cX6_order 94 = .ok (.iload_n 1, 1) := by decide +kernel
theorem dX6_order_95 : decode cX6_order 95 = .ok (.iload_n 3, 1) := by decide +kernel
theorem dX6_order_96 : decode cX6_order 96 = .ok (.iastore, 1) := by decide +kernel
theorem dX6_order_97 : decode cX6_order 97 = .ok (.return_, 1) := by decide +kernel
set_option maxRecDepth 20000 in
theorem ggX6_shift_X6_is : GoodIn wsX6_shift wsX6_is := goodIn_r _ [9] (by decide +kernel) (by decide +kernel)
set_option maxRecDepth 20000 in
theorem gX6_shift_X6_is : GoodIn wsX6_shift (va_wsS RX6 78 yX6_is wsX6_is) := goodIn_app (goodIn_of _ (by decide +kernel)) ggX6_shift_X6_is
theorem dX6_shift_0 : decode cX6_shift 0 = .ok (.aload_n 0, 1) := by decide +kernel
theorem dX6_shift_1 : decode cX6_shift 1 = .ok (.iload_n 1, 1) := by decide +kernel
theorem dX6_shift_2 : decode cX6_shift 2 = .ok (.aload_n 0, 1) := by decide +kernel
theorem dX6_shift_3 : decode cX6_shift 3 = .ok (.getfield 65, 3) := by decide +kernel
theorem dX6_shift_6 : decode cX6_shift 6 = .ok (.invokestatic 78, 3) := by decide +kernel
theorem dX6_shift_9 : decode cX6_shift 9 = .ok (.ifCond .eq 14, 3) := by decide +kernel
theorem dX6_shift_12 : decode cX6_shift 12 = .ok (.iload_n 2, 1) := by decide +kernel
theorem dX6_shift_13 : decode cX6_shift 13 = .ok (.aload_n 0, 1) := by decide +kernel
theorem dX6_shift_14 : decode cX6_shift 14 = .ok (.getfield 62, 3) := by decide +kernel
theorem dX6_shift_17 : decode cX6_shift 17 = .ok (.invokestatic 78, 3) := by decide +kernel
theorem dX6_shift_20 : decode cX6_shift 20 = .ok (.ifCond .ne 7, 3) := by decide +kernel
theorem dX6_shift_23 : decode cX6_shift 23 = .ok (.iconst 1, 1) := by decide +kernel
theorem dX6_shift_24 : decode cX6_shift 24 = .ok (.goto 18, 3) := by decide +kernel
theorem dX6_shift_27 : decode cX6_shift 27 = .ok (.aload_n 0, 1) := by decide +kernel
theorem dX6_shift_28 : decode cX6_shift 28 = .ok (.getfield 28, 3) := by decide +kernel
theorem dX6_shift_31 : decode cX6_shift 31 = .ok (.iload_n 1, 1) := by decide +kernel
theorem dX6_shift_32 : decode cX6_shift 32 = .ok (.iaload, 1) := by decide +kernel
theorem dX6_shift_33 : decode cX6_shift 33 = .ok (.iconst (-1), 1) := by decide +kernel
theorem dX6_shift_34 : decode cX6_shift 34 = .ok (.if_icmp .eq 7, 3) := by decide +kernel
theorem dX6_shift_37 : decode cX6_shift 37 = .ok (.iconst 2, 1) := by decide +kernel
theorem dX6_shift_38 : decode cX6_shift 38 = .ok (.goto 4, 3) := by decide +kernel
theorem dX6_shift_41 : decode cX6_shift 41 = .ok (.iconst 0, 1) := by decide +kernel
theorem dX6_shift_42 : decode cX6_shift 42 = .ok (.putfield 55, 3) := by decide +kernel
theorem dX6_shift_45 : decode cX6_shift 45 = .ok (.aload_n 0, 1) := by decide +kernel
theorem dX6_shift_46 : decode cX6_shift 46 = .ok (.getfield 55, 3) := by decide +kernel
theorem dX6_shift_49 : decode cX6_shift 49 = .ok (.ifCond .ne 10, 3) := by decide +kernel
theorem dX6_shift_52 : decode cX6_shift 52 = .ok (.aload_n 0, 1) := by decide +kernel
theorem dX6_shift_53 : decode cX6_shift 53 = .ok (.getfield 25, 3) := by decide +kernel
theorem dX6_shift_56 : decode cX6_shift 56 = .ok (.iload_n 1, 1) := by decide +kernel
theorem dX6_shift_57 : decode cX6_shift 57 = .ok (.iload_n 2, 1) := by decide +kernel
theorem dX6_shift_58 : decode cX6_shift 58 = .ok (.iastore, 1) := by decide +kernel
theorem dX6_shift_59 : decode cX6_shift 59 = .ok (.return_, 1) := by decide +kernel
set_option maxRecDepth 20000 in
theorem ggX6_sweep_X6_is : GoodIn wsX6_sweep wsX6_is := goodIn_r _ [13] (by decide +kernel) (by decide +kernel)
set_option maxRecDepth 20000 in
theorem gX6_sweep_X6_is : GoodIn wsX6_sweep (va_wsS RX6 78 yX6_is wsX6_is) := goodIn_app (goodIn_of _ (by decide +kernel)) ggX6_sweep_X6_is
set_option maxRecDepth 20000 in
theorem ggX6_sweep_X6_isBusy : GoodIn wsX6_sweep wsX6_isBusy := goodIn_r _ [17, 8, 1, 4, 18, 19, 20, 21, 22, 23, 24, 25, 26, 27, 28, 29, 30, 31, 32, 33, 34, 35, 36, 37, 38, 39] (by decide +kernel) (by decide +kernel)
set_option maxRecDepth 20000 in
theorem gX6_sweep_X6_isBusy : GoodIn wsX6_sweep (wsV RX6 82 RX6 yX6_isBusy wsX6_isBusy) := goodIn_app (goodIn_of _ (by decide +kernel)) ggX6_sweep_X6_isBusy
theorem dX6_sweep_0 : decode cX6_sweep 0 = .ok (.iload_n 1, 1) := by decide +kernel
theorem dX6_sweep_1 : decode cX6_sweep 1 = .ok (.aload_n 0, 1) := by decide +kernel
theorem dX6_sweep_2 : decode cX6_sweep 2 = .ok (.getfield 65, 3) := by decide +kernel
theorem dX6_sweep_5 : decode cX6_sweep 5 = .ok (.invokestatic 78, 3) := by decide +kernel
theorem dX6_sweep_8 : decode cX6_sweep 8 = .ok (.ifCond .eq 14, 3) := by decide +kernel
theorem dX6_sweep_11 : decode cX6_sweep 11 = .ok (.iload_n 2, 1) := by decide +kernel
theorem dX6_sweep_12 : decode cX6_sweep 12 = .ok (.aload_n 0, 1) := by decide +kernel
theorem dX6_sweep_13 : decode cX6_sweep 13 = .ok (.getfield 68, 3) := by decide +kernel
theorem dX6_sweep_16 : decode cX6_sweep 16 = .ok (.invokestatic 78, 3) := by decide +kernel
theorem dX6_sweep_19 : decode cX6_sweep 19 = .ok (.ifCond .ne 10, 3) := by decide +kernel
theorem dX6_sweep_22 : decode cX6_sweep 22 = .ok (.aload_n 0, 1) := by decide +kernel
theorem dX6_sweep_23 : decode cX6_sweep 23 = .ok (.iconst 1, 1) := by decide +kernel
theorem dX6_sweep_24 : decode cX6_sweep 24 = .ok (.putfield 55, 3) := by decide +kernel
theorem dX6_sweep_27 : decode cX6_sweep 27 = .ok (.iconst 0, 1) := by decide +kernel
theorem dX6_sweep_28 : decode cX6_sweep 28 = .ok (.ireturn, 1) := by decide +kernel
theorem dX6_sweep_29 : decode cX6_sweep 29 = .ok (.aload_n 0, 1) := by decide +kernel
theorem dX6_sweep_30 : decode cX6_sweep 30 = .ok (.aload_n 0, 1) := by decide +kernel
theorem dX6_sweep_31 : decode cX6_sweep 31 = .ok (.getfield 28, 3) := by decide +kernel
theorem dX6_sweep_34 : decode cX6_sweep 34 = .ok (.iload_n 1, 1) := by decide +kernel
theorem dX6_sweep_35 : decode cX6_sweep 35 = .ok (.iaload, 1) := by decide +kernel
theorem dX6_sweep_36 : decode cX6_sweep 36 = .ok (.iconst (-1), 1) := by decide +kernel
theorem dX6_sweep_37 : decode cX6_sweep 37 = .ok (.if_icmp .ne 11, 3) := by decide +kernel
theorem dX6_sweep_40 : decode cX6_sweep 40 = .ok (.aload_n 0, 1) := by decide +kernel
theorem dX6_sweep_41 : decode cX6_sweep 41 = .ok (.iload_n 2, 1) := by decide +kernel
theorem dX6_sweep_42 : decode cX6_sweep 42 = .ok (.invokevirtual 82, 3) := by decide +kernel
theorem dX6_sweep_45 : decode cX6_sweep 45 = .ok (.ifCond .eq 7, 3) := by decide +kernel
theorem dX6_sweep_48 : decode cX6_sweep 48 = .ok (.iconst 2, 1) := by decide +kernel
theorem dX6_sweep_49 : decode cX6_sweep 49 = .ok (.goto 4, 3) := by decide +kernel
theorem dX6_sweep_52 : decode cX6_sweep 52 = .ok (.iconst 0, 1) := by decide +kernel
theorem dX6_sweep_53 : decode cX6_sweep 53 = .ok (.putfield 55, 3) := by decide +kernel
theorem dX6_sweep_56 : decode cX6_sweep 56 = .ok (.aload_n 0, 1) := by decide +kernel
theorem dX6_sweep_57 : decode cX6_sweep 57 = .ok (.getfield 55, 3) := by decide +kernel
theorem dX6_sweep_60 : decode cX6_sweep 60 = .ok (.ifCond .eq 5, 3) := by decide +kernel
theorem dX6_sweep_63 : decode cX6_sweep 63 = .ok (.iconst 0, 1) := by decide +kernel
theorem dX6_sweep_64 : decode cX6_sweep 64 = .ok (.ireturn, 1) := by decide +kernel
theorem dX6_sweep_65 : decode cX6_sweep 65 = .ok (.aload_n 0, 1) := by decide +kernel
theorem dX6_sweep_66 : decode cX6_sweep 66 = .ok (.getfield 19, 3) := by decide +kernel
theorem dX6_sweep_69 : decode cX6_sweep 69 = .ok (.iload_n 1, 1) := by decide +kernel
theorem dX6_sweep_70 : decode cX6_sweep 70 = .ok (.iaload, 1) := by decide +kernel
theorem dX6_sweep_71 : decode cX6_sweep 71 = .ok (.istore_n 3, 1) := by decide +kernel
theorem dX6_sweep_72 : decode cX6_sweep 72 = .ok (.aload_n 0, 1) := by decide +kernel
theorem dX6_sweep_73 : decode cX6_sweep 73 = .ok (.getfield 7, 3) := by decide +kernel
theorem dX6_sweep_76 : decode cX6_sweep 76 = .ok (.aload_n 0, 1) := by decide +kernel
theorem dX6_sweep_77 : decode cX6_sweep 77 = .ok (.getfield 25, 3) := by decide +kernel
theorem dX6_sweep_80 : decode cX6_sweep 80 = .ok (.iload_n 1, 1) := by decide +kernel
theorem dX6_sweep_81 : decode cX6_sweep 81 = .ok (.iaload, 1) := by decide +kernel
theorem dX6_sweep_82 : decode cX6_sweep 82 = .ok (.dup2, 1) := by decide +kernel
theorem dX6_sweep_83 : decode cX6_sweep 83 = .ok (.iaload, 1) := by decide +kernel
theorem dX6_sweep_84 : decode cX6_sweep 84 = .ok (.iload_n 3, 1) := by decide +kernel
theorem dX6_sweep_85 : decode cX6_sweep 85 = .ok (.iadd, 1) := by decide +kernel
theorem dX6_sweep_86 : decode cX6_sweep 86 = .ok (.iastore, 1) := by decide +kernel
theorem dX6_sweep_87 : decode cX6_sweep 87 = .ok (.aload_n 0, 1) := by decide +kernel
theorem dX6_sweep_88 : decode cX6_sweep 88 = .ok (.getfield 19, 3) := by decide +kernel
theorem dX6_sweep_91 : decode cX6_sweep 91 = .ok (.iload_n 1, 1) := by decide +kernel
theorem dX6_sweep_92 : decode cX6_sweep 92 = .ok (.iconst 0, 1) := by decide +kernel
theorem dX6_sweep_93 : decode cX6_sweep 93 = .ok (.iastore, 1) := by decide +kernel
theorem dX6_sweep_94 : decode cX6_sweep 94 = .ok (.aload_n 0, 1) := by decide +kernel
theorem dX6_sweep_95 : decode cX6_sweep 95 = .ok (.getfield 43, 3) := by decide +kernel
theorem dX6_sweep_98 : decode cX6_sweep 98 = .ok (.iload_n 2, 1) := by decide +kernel
theorem dX6_sweep_99 : decode cX6_sweep 99 = .ok (.bipush 8, 2) := by decide +kernel
theorem dX6_sweep_101 : decode cX6_sweep 101 = .ok (.iastore, 1) := by decide +kernel
theorem dX6_sweep_102 : decode cX6_sweep 102 = .ok (.aload_n 0, 1) := by decide +kernel
theorem dX6_sweep_103 : decode cX6_sweep 103 = .ok (.getfield 40, 3) := by decide +kernel
theorem dX6_sweep_106 : decode cX6_sweep 106 = .ok (.iload_n 2, 1) := by decide +kernel
theorem dX6_sweep_107 : decode cX6_sweep 107 = .ok (.iconst 0, 1) := by decide +kernel
theorem dX6_sweep_108 : decode cX6_sweep 108 = .ok (.iastore, 1) := by decide +kernel
theorem dX6_sweep_109 : decode cX6_sweep 109 = .ok (.iload_n 3, 1) := by decide +kernel
theorem dX6_sweep_110 : decode cX6_sweep 110 = .ok (.ireturn, 1) := by decide +kernel
theorem dX6_endOrder_0 : decode cX6_endOrder 0 = .ok (.aload_n 0, 1) := by decide +kernel
theorem dX6_endOrder_1 : decode cX6_endOrder 1 = .ok (.getfield 28, 3) := by decide +kernel
theorem dX6_endOrder_4 : decode cX6_endOrder 4 = .ok (.iload_n 1, 1) := by decide +kernel
theorem dX6_endOrder_5 : decode cX6_endOrder 5 = .ok (.iaload, 1) := by decide +kernel
theorem dX6_endOrder_6 : decode cX6_endOrder 6 = .ok (.istore_n 2, 1) := by decide +kernel
theorem dX6_endOrder_7 : decode cX6_endOrder 7 = .ok (.aload_n 0, 1) := by decide +kernel
theorem dX6_endOrder_8 : decode cX6_endOrder 8 = .ok (.getfield 28, 3) := by decide +kernel
theorem dX6_endOrder_11 : decode cX6_endOrder 11 = .ok (.iload_n 1, 1) := by decide +kernel
theorem dX6_endOrder_12 : decode cX6_endOrder 12 = .ok (.iconst (-1), 1) := by decide +kernel
theorem dX6_endOrder_13 : decode cX6_endOrder 13 = .ok (.iastore, 1) := by decide +kernel
theorem dX6_endOrder_14 : decode cX6_endOrder 14 = .ok (.aload_n 0, 1) := by decide +kernel
theorem dX6_endOrder_15 : decode cX6_endOrder 15 = .ok (.getfield 22, 3) := by decide +kernel
theorem dX6_endOrder_18 : decode cX6_endOrder 18 = .ok (.iload_n 1, 1) := by decide +kernel
theorem dX6_endOrder_19 : decode cX6_endOrder 19 = .ok (.iconst 0, 1) := by decide +kernel
theorem dX6_endOrder_20 : decode cX6_endOrder 20 = .ok (.iastore, 1) := by decide +kernel
theorem dX6_endOrder_21 : decode cX6_endOrder 21 = .ok (.aload_n 0, 1) := by decide +kernel
theorem dX6_endOrder_22 : decode cX6_endOrder 22 = .ok (.getfield 40, 3) := by decide +kernel
theorem dX6_endOrder_25 : decode cX6_endOrder 25 = .ok (.iload_n 2, 1) := by decide +kernel
theorem dX6_endOrder_26 : decode cX6_endOrder 26 = .ok (.iaload, 1) := by decide +kernel
theorem dX6_endOrder_27 : decode cX6_endOrder 27 = .ok (.bipush 8, 2) := by decide +kernel
theorem dX6_endOrder_29 : decode cX6_endOrder 29 = .ok (.if_icmp .lt 18, 3) := by decide +kernel
theorem dX6_endOrder_32 : decode cX6_endOrder 32 = .ok (.aload_n 0, 1) := by decide +kernel
theorem dX6_endOrder_33 : decode cX6_endOrder 33 = .ok (.getfield 43, 3) := by decide +kernel
theorem dX6_endOrder_36 : decode cX6_endOrder 36 = .ok (.iload_n 2, 1) := by decide +kernel
theorem dX6_endOrder_37 : decode cX6_endOrder 37 = .ok (.bipush 8, 2) := by decide +kernel
theorem dX6_endOrder_39 : decode cX6_endOrder 39 = .ok (.iastore, 1) := by decide +kernel
theorem dX6_endOrder_40 : decode cX6_endOrder 40 = .ok (.aload_n 0, 1) := by decide +kernel
theorem dX6_endOrder_41 : decode cX6_endOrder 41 = .ok (.getfield 40, 3) := by decide +kernel
theorem dX6_endOrder_44 : decode cX6_endOrder 44 = .ok (.iload_n 2, 1) := by decide +kernel
theorem dX6_endOrder_45 : decode cX6_endOrder 45 = .ok (.iconst 0, 1) := by decide +kernel
theorem dX6_endOrder_46 : decode cX6_endOrder 46 = .ok (.iastore, 1) := by decide +kernel
theorem dX6_endOrder_47 : decode cX6_endOrder 47 = .ok (.return_, 1) := by decide +kernel
set_option maxRecDepth 20000 in
theorem ggX6_shovels_X6_least : GoodIn wsX6_shovels wsX6_least := goodIn_r _ [7] (by decide +kernel) (by decide +kernel)
set_option maxRecDepth 20000 in
theorem gX6_shovels_X6_least : GoodIn wsX6_shovels (va_wsS RX6 86 yX6_least wsX6_least) := goodIn_app (goodIn_of _ (by decide +kernel)) ggX6_shovels_X6_least
theorem dX6_shovels_0 : decode cX6_shovels 0 = .ok (.iconst 4, 1) := by decide +kernel
theorem dX6_shovels_1 : decode cX6_shovels 1 = .ok (.aload_n 0, 1) := by decide +kernel
theorem dX6_shovels_2 : decode cX6_shovels 2 = .ok (.getfield 37, 3) := by decide +kernel
theorem dX6_shovels_5 : decode cX6_shovels 5 = .ok (.aload_n 0, 1) := by decide +kernel
theorem dX6_shovels_6 : decode cX6_shovels 6 = .ok (.getfield 28, 3) := by decide +kernel
theorem dX6_shovels_9 : decode cX6_shovels 9 = .ok (.iload_n 1, 1) := by decide +kernel
theorem dX6_shovels_10 : decode cX6_shovels 10 = .ok (.iaload, 1) := by decide +kernel
theorem dX6_shovels_11 : decode cX6_shovels 11 = .ok (.iaload, 1) := by decide +kernel
theorem dX6_shovels_12 : decode cX6_shovels 12 = .ok (.imul, 1) := by decide +kernel
theorem dX6_shovels_13 : decode cX6_shovels 13 = .ok (.aload_n 0, 1) := by decide +kernel
theorem dX6_shovels_14 : decode cX6_shovels 14 = .ok (.getfield 19, 3) := by decide +kernel
theorem dX6_shovels_17 : decode cX6_shovels 17 = .ok (.iload_n 1, 1) := by decide +kernel
theorem dX6_shovels_18 : decode cX6_shovels 18 = .ok (.iaload, 1) := by decide +kernel
theorem dX6_shovels_19 : decode cX6_shovels 19 = .ok (.iconst 5, 1) := by decide +kernel
theorem dX6_shovels_20 : decode cX6_shovels 20 = .ok (.idiv, 1) := by decide +kernel
theorem dX6_shovels_21 : decode cX6_shovels 21 = .ok (.isub, 1) := by decide +kernel
theorem dX6_shovels_22 : decode cX6_shovels 22 = .ok (.istore_n 3, 1) := by decide +kernel
theorem dX6_shovels_23 : decode cX6_shovels 23 = .ok (.iload_n 3, 1) := by decide +kernel
theorem dX6_shovels_24 : decode cX6_shovels 24 = .ok (.iconst 1, 1) := by decide +kernel
theorem dX6_shovels_25 : decode cX6_shovels 25 = .ok (.if_icmp .ge 7, 3) := by decide +kernel
theorem dX6_shovels_28 : decode cX6_shovels 28 = .ok (.iconst 1, 1) := by decide +kernel
theorem dX6_shovels_29 : decode cX6_shovels 29 = .ok (.goto 4, 3) := by decide +kernel
theorem dX6_shovels_32 : decode cX6_shovels 32 = .ok (.iload_n 3, 1) := by decide +kernel
theorem dX6_shovels_33 : decode cX6_shovels 33 = .ok (.iload_n 2, 1) := by decide +kernel
theorem dX6_shovels_34 : decode cX6_shovels 34 = .ok (.invokestatic 86, 3) := by decide +kernel
theorem dX6_shovels_37 : decode cX6_shovels 37 = .ok (.ireturn, 1) := by decide +kernel
set_option maxRecDepth 20000 in
theorem ggX6_atHulk_X6_least : GoodIn wsX6_atHulk wsX6_least := goodIn_r _ [11] (by decide +kernel) (by decide +kernel)
set_option maxRecDepth 20000 in
theorem gX6_atHulk_X6_least : GoodIn wsX6_atHulk (va_wsS RX6 86 yX6_least wsX6_least) := goodIn_app (goodIn_of _ (by decide +kernel)) ggX6_atHulk_X6_least
set_option maxRecDepth 20000 in
theorem ggX6_atHulk_X6_shovels : GoodIn wsX6_atHulk wsX6_shovels := goodIn_r _ [15, 16, 17, 5, 8, 9, 10, 11, 24, 25, 26, 27, 28, 29, 30, 31, 32, 33, 34, 35, 36, 37, 38, 39, 40, 41, 42, 43, 44, 45] (by decide +kernel) (by decide +kernel)
set_option maxRecDepth 20000 in
theorem gX6_atHulk_X6_shovels : GoodIn wsX6_atHulk (wsV RX6 90 RX6 yX6_shovels wsX6_shovels) := goodIn_app (goodIn_of _ (by decide +kernel)) ggX6_atHulk_X6_shovels
set_option maxRecDepth 20000 in
theorem ggX6_atHulk_X6_endOrder : GoodIn wsX6_atHulk wsX6_endOrder := goodIn_r _ [21, 17, 6, 22, 23, 24, 25, 26, 27, 28, 29, 30, 31, 32, 33, 34, 35, 36, 37, 38, 39, 40, 41, 42, 43, 44, 45] (by decide +kernel) (by decide +kernel)
set_option maxRecDepth 20000 in
theorem gX6_atHulk_X6_endOrder : GoodIn wsX6_atHulk (wsV RX6 93 RX6 yX6_endOrder wsX6_endOrder) := goodIn_app (goodIn_of _ (by decide +kernel)) ggX6_atHulk_X6_endOrder
theorem dX6_atHulk_0 : decode cX6_atHulk 0 = .ok (.aload_n 0, 1) := by decide +kernel
theorem dX6_atHulk_1 : decode cX6_atHulk 1 = .ok (.getfield 7, 3) := by decide +kernel
theorem dX6_atHulk_4 : decode cX6_atHulk 4 = .ok (.aload_n 0, 1) := by decide +kernel
theorem dX6_atHulk_5 : decode cX6_atHulk 5 = .ok (.getfield 25, 3) := by decide +kernel
theorem dX6_atHulk_8 : decode cX6_atHulk 8 = .ok (.iload_n 1, 1) := by decide +kernel
theorem dX6_atHulk_9 : decode cX6_atHulk 9 = .ok (.iaload, 1) := by decide +kernel
theorem dX6_atHulk_10 : decode cX6_atHulk 10 = .ok (.iaload, 1) := by decide +kernel
theorem dX6_atHulk_11 : decode cX6_atHulk 11 = .ok (.istore_n 2, 1) := by decide +kernel
theorem dX6_atHulk_12 : decode cX6_atHulk 12 = .ok (.aload_n 0, 1) := by decide +kernel
theorem dX6_atHulk_13 : decode cX6_atHulk 13 = .ok (.getfield 13, 3) := by decide +kernel
theorem dX6_atHulk_16 : decode cX6_atHulk 16 = .ok (.iload_n 1, 1) := by decide +kernel
theorem dX6_atHulk_17 : decode cX6_atHulk 17 = .ok (.iaload, 1) := by decide +kernel
theorem dX6_atHulk_18 : decode cX6_atHulk 18 = .ok (.aload_n 0, 1) := by decide +kernel
theorem dX6_atHulk_19 : decode cX6_atHulk 19 = .ok (.getfield 16, 3) := by decide +kernel
theorem dX6_atHulk_22 : decode cX6_atHulk 22 = .ok (.iload_n 1, 1) := by decide +kernel
theorem dX6_atHulk_23 : decode cX6_atHulk 23 = .ok (.iaload, 1) := by decide +kernel
theorem dX6_atHulk_24 : decode cX6_atHulk 24 = .ok (.isub, 1) := by decide +kernel
theorem dX6_atHulk_25 : decode cX6_atHulk 25 = .ok (.istore_n 3, 1) := by decide +kernel
theorem dX6_atHulk_26 : decode cX6_atHulk 26 = .ok (.iload_n 2, 1) := by decide +kernel
theorem dX6_atHulk_27 : decode cX6_atHulk 27 = .ok (.ifCond .le 69, 3) := by decide +kernel
theorem dX6_atHulk_30 : decode cX6_atHulk 30 = .ok (.iload_n 3, 1) := by decide +kernel
theorem dX6_atHulk_31 : decode cX6_atHulk 31 = .ok (.ifCond .le 65, 3) := by decide +kernel
theorem dX6_atHulk_34 : decode cX6_atHulk 34 = .ok (.aload_n 0, 1) := by decide +kernel
theorem dX6_atHulk_35 : decode cX6_atHulk 35 = .ok (.iload_n 1, 1) := by decide +kernel
theorem dX6_atHulk_36 : decode cX6_atHulk 36 = .ok (.iload_n 2, 1) := by decide +kernel
theorem dX6_atHulk_37 : decode cX6_atHulk 37 = .ok (.iload_n 3, 1) := by decide +kernel
theorem dX6_atHulk_38 : decode cX6_atHulk 38 = .ok (.invokestatic 86, 3) := by decide +kernel
theorem dX6_atHulk_41 : decode cX6_atHulk 41 = .ok (.invokevirtual 90, 3) := by decide +kernel
theorem dX6_atHulk_44 : decode cX6_atHulk 44 = .ok (.istore 4, 2) := by decide +kernel
theorem dX6_atHulk_46 : decode cX6_atHulk 46 = .ok (.aload_n 0, 1) := by decide +kernel
theorem dX6_atHulk_47 : decode cX6_atHulk 47 = .ok (.getfield 7, 3) := by decide +kernel
theorem dX6_atHulk_50 : decode cX6_atHulk 50 = .ok (.aload_n 0, 1) := by decide +kernel
theorem dX6_atHulk_51 : decode cX6_atHulk 51 = .ok (.getfield 25, 3) := by decide +kernel
theorem dX6_atHulk_54 : decode cX6_atHulk 54 = .ok (.iload_n 1, 1) := by decide +kernel
theorem dX6_atHulk_55 : decode cX6_atHulk 55 = .ok (.iaload, 1) := by decide +kernel
theorem dX6_atHulk_56 : decode cX6_atHulk 56 = .ok (.dup2, 1) := by decide +kernel
theorem dX6_atHulk_57 : decode cX6_atHulk 57 = .ok (.iaload, 1) := by decide +kernel
theorem dX6_atHulk_58 : decode cX6_atHulk 58 = .ok (.iload 4, 2) := by decide +kernel
theorem dX6_atHulk_60 : decode cX6_atHulk 60 = .ok (.isub, 1) := by decide +kernel
theorem dX6_atHulk_61 : decode cX6_atHulk 61 = .ok (.iastore, 1) := by decide +kernel
theorem dX6_atHulk_62 : decode cX6_atHulk 62 = .ok (.aload_n 0, 1) := by decide +kernel
theorem dX6_atHulk_63 : decode cX6_atHulk 63 = .ok (.getfield 16, 3) := by decide +kernel
theorem dX6_atHulk_66 : decode cX6_atHulk 66 = .ok (.iload_n 1, 1) := by decide +kernel
theorem dX6_atHulk_67 : decode cX6_atHulk 67 = .ok (.dup2, 1) := by decide +kernel
theorem dX6_atHulk_68 : decode cX6_atHulk 68 = .ok (.iaload, 1) := by decide +kernel
theorem dX6_atHulk_69 : decode cX6_atHulk 69 = .ok (.iload 4, 2) := by decide +kernel
theorem dX6_atHulk_71 : decode cX6_atHulk 71 = .ok (.iload 4, 2) := by decide +kernel
theorem dX6_atHulk_73 : decode cX6_atHulk 73 = .ok (.bipush 50, 2) := by decide +kernel
theorem dX6_atHulk_75 : decode cX6_atHulk 75 = .ok (.idiv, 1) := by decide +kernel
theorem dX6_atHulk_76 : decode cX6_atHulk 76 = .ok (.isub, 1) := by decide +kernel
theorem dX6_atHulk_77 : decode cX6_atHulk 77 = .ok (.iadd, 1) := by decide +kernel
theorem dX6_atHulk_78 : decode cX6_atHulk 78 = .ok (.iastore, 1) := by decide +kernel
theorem dX6_atHulk_79 : decode cX6_atHulk 79 = .ok (.aload_n 0, 1) := by decide +kernel
theorem dX6_atHulk_80 : decode cX6_atHulk 80 = .ok (.getfield 19, 3) := by decide +kernel
theorem dX6_atHulk_83 : decode cX6_atHulk 83 = .ok (.iload_n 1, 1) := by decide +kernel
theorem dX6_atHulk_84 : decode cX6_atHulk 84 = .ok (.dup2, 1) := by decide +kernel
theorem dX6_atHulk_85 : decode cX6_atHulk 85 = .ok (.iaload, 1) := by decide +kernel
theorem dX6_atHulk_86 : decode cX6_atHulk 86 = .ok (.iload 4, 2) := by decide +kernel
theorem dX6_atHulk_88 : decode cX6_atHulk 88 = .ok (.bipush 50, 2) := by decide +kernel
theorem dX6_atHulk_90 : decode cX6_atHulk 90 = .ok (.idiv, 1) := by decide +kernel
theorem dX6_atHulk_91 : decode cX6_atHulk 91 = .ok (.iadd, 1) := by decide +kernel
theorem dX6_atHulk_92 : decode cX6_atHulk 92 = .ok (.iastore, 1) := by decide +kernel
theorem dX6_atHulk_93 : decode cX6_atHulk 93 = .ok (.goto 34, 3) := by decide +kernel
theorem dX6_atHulk_96 : decode cX6_atHulk 96 = .ok (.aload_n 0, 1) := by decide +kernel
theorem dX6_atHulk_97 : decode cX6_atHulk 97 = .ok (.getfield 16, 3) := by decide +kernel
theorem dX6_atHulk_100 : decode cX6_atHulk 100 = .ok (.iload_n 1, 1) := by decide +kernel
theorem dX6_atHulk_101 : decode cX6_atHulk 101 = .ok (.iaload, 1) := by decide +kernel
theorem dX6_atHulk_102 : decode cX6_atHulk 102 = .ok (.ifCond .le 20, 3) := by decide +kernel
theorem dX6_atHulk_105 : decode cX6_atHulk 105 = .ok (.aload_n 0, 1) := by decide +kernel
theorem dX6_atHulk_106 : decode cX6_atHulk 106 = .ok (.getfield 22, 3) := by decide +kernel
theorem dX6_atHulk_109 : decode cX6_atHulk 109 = .ok (.iload_n 1, 1) := by decide +kernel
theorem dX6_atHulk_110 : decode cX6_atHulk 110 = .ok (.iconst 1, 1) := by decide +kernel
theorem dX6_atHulk_111 : decode cX6_atHulk 111 = .ok (.iastore, 1) := by decide +kernel
theorem dX6_atHulk_112 : decode cX6_atHulk 112 = .ok (.aload_n 0, 1) := by decide +kernel
theorem dX6_atHulk_113 : decode cX6_atHulk 113 = .ok (.getfield 34, 3) := by decide +kernel
theorem dX6_atHulk_116 : decode cX6_atHulk 116 = .ok (.iload_n 1, 1) := by decide +kernel
theorem dX6_atHulk_117 : decode cX6_atHulk 117 = .ok (.iconst 2, 1) := by decide +kernel
theorem dX6_atHulk_118 : decode cX6_atHulk 118 = .ok (.iastore, 1) := by decide +kernel
theorem dX6_atHulk_119 : decode cX6_atHulk 119 = .ok (.goto 8, 3) := by decide +kernel
theorem dX6_atHulk_122 : decode cX6_atHulk 122 = .ok (.aload_n 0, 1) := by decide +kernel
theorem dX6_atHulk_123 : decode cX6_atHulk 123 = .ok (.iload_n 1, 1) := by decide +kernel
theorem dX6_atHulk_124 : decode cX6_atHulk 124 = .ok (.invokevirtual 93, 3) := by decide +kernel
theorem dX6_atHulk_127 : decode cX6_atHulk 127 = .ok (.return_, 1) := by decide +kernel
set_option maxRecDepth 20000 in
theorem ggX6_atSteamer_X6_turnHome : GoodIn wsX6_atSteamer wsX6_turnHome := goodIn_r _ [11, 12, 13, 23, 24, 25, 26, 27, 28, 29, 30, 31, 32, 33, 34, 35, 36, 37, 38, 39, 40, 41, 42, 43, 44] (by decide +kernel) (by decide +kernel)
set_option maxRecDepth 20000 in
theorem gX6_atSteamer_X6_turnHome : GoodIn wsX6_atSteamer (wsV RX6 97 RX6 yX6_turnHome wsX6_turnHome) := goodIn_app (goodIn_of _ (by decide +kernel)) ggX6_atSteamer_X6_turnHome
set_option maxRecDepth 20000 in
theorem ggX6_atSteamer_X6_least : GoodIn wsX6_atSteamer wsX6_least := goodIn_r _ [16] (by decide +kernel) (by decide +kernel)
set_option maxRecDepth 20000 in
theorem gX6_atSteamer_X6_least : GoodIn wsX6_atSteamer (va_wsS RX6 86 yX6_least wsX6_least) := goodIn_app (goodIn_of _ (by decide +kernel)) ggX6_atSteamer_X6_least
set_option maxRecDepth 20000 in
theorem ggX6_atSteamer_X6_shovels : GoodIn wsX6_atSteamer wsX6_shovels := goodIn_r _ [20, 21, 22, 5, 14, 15, 10, 16, 23, 24, 25, 26, 27, 28, 29, 30, 31, 32, 33, 34, 35, 36, 37, 38, 39, 40, 41, 42, 43, 44] (by decide +kernel) (by decide +kernel)
set_option maxRecDepth 20000 in
theorem gX6_atSteamer_X6_shovels : GoodIn wsX6_atSteamer (wsV RX6 90 RX6 yX6_shovels wsX6_shovels) := goodIn_app (goodIn_of _ (by decide +kernel)) ggX6_atSteamer_X6_shovels
theorem dX6_atSteamer_0 : decode cX6_atSteamer 0 = .ok (.aload_n 0, 1) := by decide +kernel
theorem dX6_atSteamer_1 : decode cX6_atSteamer 1 = .ok (.getfield 31, 3) := by decide +kernel
theorem dX6_atSteamer_4 : decode cX6_atSteamer 4 = .ok (.iload_n 1, 1) := by decide +kernel
theorem dX6_atSteamer_5 : decode cX6_atSteamer 5 = .ok (.iaload, 1) := by decide +kernel
theorem dX6_atSteamer_6 : decode cX6_atSteamer 6 = .ok (.istore_n 2, 1) := by decide +kernel
theorem dX6_atSteamer_7 : decode cX6_atSteamer 7 = .ok (.aload_n 0, 1) := by decide +kernel
theorem dX6_atSteamer_8 : decode cX6_atSteamer 8 = .ok (.getfield 16, 3) := by decide +kernel
theorem dX6_atSteamer_11 : decode cX6_atSteamer 11 = .ok (.iload_n 1, 1) := by decide +kernel
theorem dX6_atSteamer_12 : decode cX6_atSteamer 12 = .ok (.iaload, 1) := by decide +kernel
theorem dX6_atSteamer_13 : decode cX6_atSteamer 13 = .ok (.ifCond .ne 11, 3) := by decide +kernel
theorem dX6_atSteamer_16 : decode cX6_atSteamer 16 = .ok (.aload_n 0, 1) := by decide +kernel
theorem dX6_atSteamer_17 : decode cX6_atSteamer 17 = .ok (.iload_n 1, 1) := by decide +kernel
theorem dX6_atSteamer_18 : decode cX6_atSteamer 18 = .ok (.invokevirtual 97, 3) := by decide +kernel
theorem dX6_atSteamer_21 : decode cX6_atSteamer 21 = .ok (.goto 87, 3) := by decide +kernel
theorem dX6_atSteamer_24 : decode cX6_atSteamer 24 = .ok (.aload_n 0, 1) := by decide +kernel
theorem dX6_atSteamer_25 : decode cX6_atSteamer 25 = .ok (.getfield 52, 3) := by decide +kernel
theorem dX6_atSteamer_28 : decode cX6_atSteamer 28 = .ok (.iload_n 2, 1) := by decide +kernel
theorem dX6_atSteamer_29 : decode cX6_atSteamer 29 = .ok (.iaload, 1) := by decide +kernel
theorem dX6_atSteamer_30 : decode cX6_atSteamer 30 = .ok (.iconst 1, 1) := by decide +kernel
theorem dX6_atSteamer_31 : decode cX6_atSteamer 31 = .ok (.if_icmp .ne 77, 3) := by decide +kernel
theorem dX6_atSteamer_34 : decode cX6_atSteamer 34 = .ok (.aload_n 0, 1) := by decide +kernel
theorem dX6_atSteamer_35 : decode cX6_atSteamer 35 = .ok (.iload_n 1, 1) := by decide +kernel
theorem dX6_atSteamer_36 : decode cX6_atSteamer 36 = .ok (.aload_n 0, 1) := by decide +kernel
theorem dX6_atSteamer_37 : decode cX6_atSteamer 37 = .ok (.getfield 16, 3) := by decide +kernel
theorem dX6_atSteamer_40 : decode cX6_atSteamer 40 = .ok (.iload_n 1, 1) := by decide +kernel
theorem dX6_atSteamer_41 : decode cX6_atSteamer 41 = .ok (.iaload, 1) := by decide +kernel
theorem dX6_atSteamer_42 : decode cX6_atSteamer 42 = .ok (.aload_n 0, 1) := by decide +kernel
theorem dX6_atSteamer_43 : decode cX6_atSteamer 43 = .ok (.getfield 46, 3) := by decide +kernel
theorem dX6_atSteamer_46 : decode cX6_atSteamer 46 = .ok (.iload_n 2, 1) := by decide +kernel
theorem dX6_atSteamer_47 : decode cX6_atSteamer 47 = .ok (.iaload, 1) := by decide +kernel
theorem dX6_atSteamer_48 : decode cX6_atSteamer 48 = .ok (.invokestatic 86, 3) := by decide +kernel
theorem dX6_atSteamer_51 : decode cX6_atSteamer 51 = .ok (.invokevirtual 90, 3) := by decide +kernel
theorem dX6_atSteamer_54 : decode cX6_atSteamer 54 = .ok (.istore_n 3, 1) := by decide +kernel
theorem dX6_atSteamer_55 : decode cX6_atSteamer 55 = .ok (.aload_n 0, 1) := by decide +kernel
theorem dX6_atSteamer_56 : decode cX6_atSteamer 56 = .ok (.getfield 16, 3) := by decide +kernel
theorem dX6_atSteamer_59 : decode cX6_atSteamer 59 = .ok (.iload_n 1, 1) := by decide +kernel
theorem dX6_atSteamer_60 : decode cX6_atSteamer 60 = .ok (.dup2, 1) := by decide +kernel
theorem dX6_atSteamer_61 : decode cX6_atSteamer 61 = .ok (.iaload, 1) := by decide +kernel
theorem dX6_atSteamer_62 : decode cX6_atSteamer 62 = .ok (.iload_n 3, 1) := by decide +kernel
theorem dX6_atSteamer_63 : decode cX6_atSteamer 63 = .ok (.isub, 1) := by decide +kernel
theorem dX6_atSteamer_64 : decode cX6_atSteamer 64 = .ok (.iastore, 1) := by decide +kernel
theorem dX6_atSteamer_65 : decode cX6_atSteamer 65 = .ok (.aload_n 0, 1) := by decide +kernel
theorem dX6_atSteamer_66 : decode cX6_atSteamer 66 = .ok (.getfield 19, 3) := by decide +kernel
theorem dX6_atSteamer_69 : decode cX6_atSteamer 69 = .ok (.iload_n 1, 1) := by decide +kernel
theorem dX6_atSteamer_70 : decode cX6_atSteamer 70 = .ok (.dup2, 1) := by decide +kernel
theorem dX6_atSteamer_71 : decode cX6_atSteamer 71 = .ok (.iaload, 1) := by decide +kernel
theorem dX6_atSteamer_72 : decode cX6_atSteamer 72 = .ok (.iload_n 3, 1) := by decide +kernel
theorem dX6_atSteamer_73 : decode cX6_atSteamer 73 = .ok (.bipush 50, 2) := by decide +kernel
theorem dX6_atSteamer_75 : decode cX6_atSteamer 75 = .ok (.idiv, 1) := by decide +kernel
theorem dX6_atSteamer_76 : decode cX6_atSteamer 76 = .ok (.iadd, 1) := by decide +kernel
theorem dX6_atSteamer_77 : decode cX6_atSteamer 77 = .ok (.iastore, 1) := by decide +kernel
theorem dX6_atSteamer_78 : decode cX6_atSteamer 78 = .ok (.aload_n 0, 1) := by decide +kernel
theorem dX6_atSteamer_79 : decode cX6_atSteamer 79 = .ok (.getfield 46, 3) := by decide +kernel
theorem dX6_atSteamer_82 : decode cX6_atSteamer 82 = .ok (.iload_n 2, 1) := by decide +kernel
theorem dX6_atSteamer_83 : decode cX6_atSteamer 83 = .ok (.dup2, 1) := by decide +kernel
theorem dX6_atSteamer_84 : decode cX6_atSteamer 84 = .ok (.iaload, 1) := by decide +kernel
theorem dX6_atSteamer_85 : decode cX6_atSteamer 85 = .ok (.iload_n 3, 1) := by decide +kernel
theorem dX6_atSteamer_86 : decode cX6_atSteamer 86 = .ok (.iload_n 3, 1) := by decide +kernel
theorem dX6_atSteamer_87 : decode cX6_atSteamer 87 = .ok (.bipush 50, 2) := by decide +kernel
theorem dX6_atSteamer_89 : decode cX6_atSteamer 89 = .ok (.idiv, 1) := by decide +kernel
theorem dX6_atSteamer_90 : decode cX6_atSteamer 90 = .ok (.isub, 1) := by decide +kernel
theorem dX6_atSteamer_91 : decode cX6_atSteamer 91 = .ok (.isub, 1) := by decide +kernel
theorem dX6_atSteamer_92 : decode cX6_atSteamer 92 = .ok (.iastore, 1) := by decide +kernel
theorem dX6_atSteamer_93 : decode cX6_atSteamer 93 = .ok (.aload_n 0, 1) := by decide +kernel
theorem dX6_atSteamer_94 : decode cX6_atSteamer 94 = .ok (.dup, 1) := by decide +kernel
theorem dX6_atSteamer_95 : decode cX6_atSteamer 95 = .ok (.getfield 100, 3) := by decide +kernel
theorem dX6_atSteamer_98 : decode cX6_atSteamer 98 = .ok (.iload_n 3, 1) := by decide +kernel
theorem dX6_atSteamer_99 : decode cX6_atSteamer 99 = .ok (.iload_n 3, 1) := by decide +kernel
theorem dX6_atSteamer_100 : decode cX6_atSteamer 100 = .ok (.bipush 50, 2) := by decide +kernel
theorem dX6_atSteamer_102 : decode cX6_atSteamer 102 = .ok (.idiv, 1) := by decide +kernel
theorem dX6_atSteamer_103 : decode cX6_atSteamer 103 = .ok (.isub, 1) := by decide +kernel
theorem dX6_atSteamer_104 : decode cX6_atSteamer 104 = .ok (.iadd, 1) := by decide +kernel
theorem dX6_atSteamer_105 : decode cX6_atSteamer 105 = .ok (.putfield 100, 3) := by decide +kernel
theorem dX6_atSteamer_108 : decode cX6_atSteamer 108 = .ok (.return_, 1) := by decide +kernel
theorem dX6_turnHome_0 : decode cX6_turnHome 0 = .ok (.aload_n 0, 1) := by decide +kernel
theorem dX6_turnHome_1 : decode cX6_turnHome 1 = .ok (.getfield 22, 3) := by decide +kernel
theorem dX6_turnHome_4 : decode cX6_turnHome 4 = .ok (.iload_n 1, 1) := by decide +kernel
theorem dX6_turnHome_5 : decode cX6_turnHome 5 = .ok (.iconst 3, 1) := by decide +kernel
theorem dX6_turnHome_6 : decode cX6_turnHome 6 = .ok (.iastore, 1) := by decide +kernel
theorem dX6_turnHome_7 : decode cX6_turnHome 7 = .ok (.aload_n 0, 1) := by decide +kernel
theorem dX6_turnHome_8 : decode cX6_turnHome 8 = .ok (.getfield 34, 3) := by decide +kernel
theorem dX6_turnHome_11 : decode cX6_turnHome 11 = .ok (.iload_n 1, 1) := by decide +kernel
theorem dX6_turnHome_12 : decode cX6_turnHome 12 = .ok (.iconst 1, 1) := by decide +kernel
theorem dX6_turnHome_13 : decode cX6_turnHome 13 = .ok (.iastore, 1) := by decide +kernel
theorem dX6_turnHome_14 : decode cX6_turnHome 14 = .ok (.return_, 1) := by decide +kernel
set_option maxRecDepth 20000 in
theorem ggX6_goOn_X6_endOrder : GoodIn wsX6_goOn wsX6_endOrder := goodIn_r _ [7, 8, 2, 9, 10, 11, 12, 13, 14, 15, 16, 17, 18, 19, 20, 21, 22, 23, 24, 25, 26, 27, 28, 29, 30, 31, 32] (by decide +kernel) (by decide +kernel)
set_option maxRecDepth 20000 in
theorem gX6_goOn_X6_endOrder : GoodIn wsX6_goOn (wsV RX6 93 RX6 yX6_endOrder wsX6_endOrder) := goodIn_app (goodIn_of _ (by decide +kernel)) ggX6_goOn_X6_endOrder
theorem dX6_goOn_0 : decode cX6_goOn 0 = .ok (.aload_n 0, 1) := by decide +kernel
theorem dX6_goOn_1 : decode cX6_goOn 1 = .ok (.getfield 34, 3) := by decide +kernel
theorem dX6_goOn_4 : decode cX6_goOn 4 = .ok (.iload_n 1, 1) := by decide +kernel
theorem dX6_goOn_5 : decode cX6_goOn 5 = .ok (.dup2, 1) := by decide +kernel
theorem dX6_goOn_6 : decode cX6_goOn 6 = .ok (.iaload, 1) := by decide +kernel
theorem dX6_goOn_7 : decode cX6_goOn 7 = .ok (.iconst 1, 1) := by decide +kernel
theorem dX6_goOn_8 : decode cX6_goOn 8 = .ok (.isub, 1) := by decide +kernel
theorem dX6_goOn_9 : decode cX6_goOn 9 = .ok (.iastore, 1) := by decide +kernel
theorem dX6_goOn_10 : decode cX6_goOn 10 = .ok (.aload_n 0, 1) := by decide +kernel
theorem dX6_goOn_11 : decode cX6_goOn 11 = .ok (.getfield 34, 3) := by decide +kernel
theorem dX6_goOn_14 : decode cX6_goOn 14 = .ok (.iload_n 1, 1) := by decide +kernel
theorem dX6_goOn_15 : decode cX6_goOn 15 = .ok (.iaload, 1) := by decide +kernel
theorem dX6_goOn_16 : decode cX6_goOn 16 = .ok (.ifCond .le 4, 3) := by decide +kernel
theorem dX6_goOn_19 : decode cX6_goOn 19 = .ok (.return_, 1) := by decide +kernel
theorem dX6_goOn_20 : decode cX6_goOn 20 = .ok (.aload_n 0, 1) := by decide +kernel
theorem dX6_goOn_21 : decode cX6_goOn 21 = .ok (.getfield 22, 3) := by decide +kernel
theorem dX6_goOn_24 : decode cX6_goOn 24 = .ok (.iload_n 1, 1) := by decide +kernel
theorem dX6_goOn_25 : decode cX6_goOn 25 = .ok (.iaload, 1) := by decide +kernel
theorem dX6_goOn_26 : decode cX6_goOn 26 = .ok (.iconst 1, 1) := by decide +kernel
theorem dX6_goOn_27 : decode cX6_goOn 27 = .ok (.if_icmp .ne 13, 3) := by decide +kernel
theorem dX6_goOn_30 : decode cX6_goOn 30 = .ok (.aload_n 0, 1) := by decide +kernel
theorem dX6_goOn_31 : decode cX6_goOn 31 = .ok (.getfield 22, 3) := by decide +kernel
theorem dX6_goOn_34 : decode cX6_goOn 34 = .ok (.iload_n 1, 1) := by decide +kernel
theorem dX6_goOn_35 : decode cX6_goOn 35 = .ok (.iconst 2, 1) := by decide +kernel
theorem dX6_goOn_36 : decode cX6_goOn 36 = .ok (.iastore, 1) := by decide +kernel
theorem dX6_goOn_37 : decode cX6_goOn 37 = .ok (.goto 8, 3) := by decide +kernel
theorem dX6_goOn_40 : decode cX6_goOn 40 = .ok (.aload_n 0, 1) := by decide +kernel
theorem dX6_goOn_41 : decode cX6_goOn 41 = .ok (.iload_n 1, 1) := by decide +kernel
theorem dX6_goOn_42 : decode cX6_goOn 42 = .ok (.invokevirtual 93, 3) := by decide +kernel
theorem dX6_goOn_45 : decode cX6_goOn 45 = .ok (.return_, 1) := by decide +kernel
set_option maxRecDepth 20000 in
theorem ggX6_work_X6_atHulk : GoodIn wsX6_work wsX6_atHulk := goodIn_r _ [8, 9, 10, 11, 12, 13, 3, 14, 15, 16, 7, 17, 18, 19, 20, 21, 22, 2, 23, 24, 25, 26, 1, 27, 44, 45, 46, 47, 48, 49, 50, 51, 52, 53, 54, 55, 56, 57, 58, 59, 60, 61, 62, 63, 64, 65] (by decide +kernel) (by decide +kernel)
set_option maxRecDepth 20000 in
theorem gX6_work_X6_atHulk : GoodIn wsX6_work (wsV RX6 103 RX6 yX6_atHulk wsX6_atHulk) := goodIn_app (goodIn_of _ (by decide +kernel)) ggX6_work_X6_atHulk
set_option maxRecDepth 20000 in
theorem ggX6_work_X6_atSteamer : GoodIn wsX6_work wsX6_atSteamer := goodIn_r _ [31, 32, 12, 33, 34, 13, 35, 36, 37, 38, 7, 39, 3, 14, 15, 16, 17, 18, 19, 20, 21, 22, 2, 44, 45, 46, 47, 48, 49, 50, 51, 52, 53, 54, 55, 56, 57, 58, 59, 60, 61, 62, 63, 64, 65] (by decide +kernel) (by decide +kernel)
set_option maxRecDepth 20000 in
theorem gX6_work_X6_atSteamer : GoodIn wsX6_work (wsV RX6 106 RX6 yX6_atSteamer wsX6_atSteamer) := goodIn_app (goodIn_of _ (by decide +kernel)) ggX6_work_X6_atSteamer
set_option maxRecDepth 20000 in
theorem ggX6_work_X6_goOn : GoodIn wsX6_work wsX6_goOn := goodIn_r _ [43, 14, 3, 23, 24, 25, 7, 26, 2, 1, 27, 44, 45, 46, 47, 48, 49, 50, 51, 52, 53, 54, 55, 56, 57, 58, 59, 60, 61, 62, 63, 64, 65] (by decide +kernel) (by decide +kernel)
set_option maxRecDepth 20000 in
theorem gX6_work_X6_goOn : GoodIn wsX6_work (wsV RX6 109 RX6 yX6_goOn wsX6_goOn) := goodIn_app (goodIn_of _ (by decide +kernel)) ggX6_work_X6_goOn
theorem dX6_work_0 : decode cX6_work 0 = .ok (.aload_n 0, 1) := by decide +kernel
theorem dX6_work_1 : decode cX6_work 1 = .ok (.getfield 40, 3) := by decide +kernel
theorem dX6_work_4 : decode cX6_work 4 = .ok (.aload_n 0, 1) := by decide +kernel
theorem dX6_work_5 : decode cX6_work 5 = .ok (.getfield 28, 3) := by decide +kernel
theorem dX6_work_8 : decode cX6_work 8 = .ok (.iload_n 1, 1) := by decide +kernel
theorem dX6_work_9 : decode cX6_work 9 = .ok (.iaload, 1) := by decide +kernel
theorem dX6_work_10 : decode cX6_work 10 = .ok (.dup2, 1) := by decide +kernel
theorem dX6_work_11 : decode cX6_work 11 = .ok (.iaload, 1) := by decide +kernel
theorem dX6_work_12 : decode cX6_work 12 = .ok (.iconst 1, 1) := by decide +kernel
theorem dX6_work_13 : decode cX6_work 13 = .ok (.iadd, 1) := by decide +kernel
theorem dX6_work_14 : decode cX6_work 14 = .ok (.iastore, 1) := by decide +kernel
theorem dX6_work_15 : decode cX6_work 15 = .ok (.aload_n 0, 1) := by decide +kernel
theorem dX6_work_16 : decode cX6_work 16 = .ok (.getfield 22, 3) := by decide +kernel
theorem dX6_work_19 : decode cX6_work 19 = .ok (.iload_n 1, 1) := by decide +kernel
theorem dX6_work_20 : decode cX6_work 20 = .ok (.iaload, 1) := by decide +kernel
theorem dX6_work_21 : decode cX6_work 21 = .ok (.ifCond .ne 11, 3) := by decide +kernel
theorem dX6_work_24 : decode cX6_work 24 = .ok (.aload_n 0, 1) := by decide +kernel
theorem dX6_work_25 : decode cX6_work 25 = .ok (.iload_n 1, 1) := by decide +kernel
theorem dX6_work_26 : decode cX6_work 26 = .ok (.invokevirtual 103, 3) := by decide +kernel
theorem dX6_work_29 : decode cX6_work 29 = .ok (.goto 26, 3) := by decide +kernel
theorem dX6_work_32 : decode cX6_work 32 = .ok (.aload_n 0, 1) := by decide +kernel
theorem dX6_work_33 : decode cX6_work 33 = .ok (.getfield 22, 3) := by decide +kernel
theorem dX6_work_36 : decode cX6_work 36 = .ok (.iload_n 1, 1) := by decide +kernel
theorem dX6_work_37 : decode cX6_work 37 = .ok (.iaload, 1) := by decide +kernel
theorem dX6_work_38 : decode cX6_work 38 = .ok (.iconst 2, 1) := by decide +kernel
theorem dX6_work_39 : decode cX6_work 39 = .ok (.if_icmp .ne 11, 3) := by decide +kernel
theorem dX6_work_42 : decode cX6_work 42 = .ok (.aload_n 0, 1) := by decide +kernel
theorem dX6_work_43 : decode cX6_work 43 = .ok (.iload_n 1, 1) := by decide +kernel
theorem dX6_work_44 : decode cX6_work 44 = .ok (.invokevirtual 106, 3) := by decide +kernel
theorem dX6_work_47 : decode cX6_work 47 = .ok (.goto 8, 3) := by decide +kernel
theorem dX6_work_50 : decode cX6_work 50 = .ok (.aload_n 0, 1) := by decide +kernel
theorem dX6_work_51 : decode cX6_work 51 = .ok (.iload_n 1, 1) := by decide +kernel
theorem dX6_work_52 : decode cX6_work 52 = .ok (.invokevirtual 109, 3) := by decide +kernel
theorem dX6_work_55 : decode cX6_work 55 = .ok (.return_, 1) := by decide +kernel
set_option maxRecDepth 20000 in
theorem ggX6_leave_X6_endOrder : GoodIn wsX6_leave wsX6_endOrder := goodIn_r _ [11, 4, 6, 12, 13, 19, 20, 21, 22, 23, 24, 25, 26, 27, 28, 29, 30, 31, 32, 33, 34, 35, 36, 37, 38, 39, 40] (by decide +kernel) (by decide +kernel)
set_option maxRecDepth 20000 in
theorem gX6_leave_X6_endOrder : GoodIn wsX6_leave (wsV RX6 93 RX6 yX6_endOrder wsX6_endOrder) := goodIn_app (goodIn_of _ (by decide +kernel)) ggX6_leave_X6_endOrder
set_option maxRecDepth 20000 in
theorem ggX6_leave_X6_turnHome : GoodIn wsX6_leave wsX6_turnHome := goodIn_r _ [17, 6, 18, 19, 20, 21, 22, 23, 24, 25, 26, 27, 28, 29, 30, 31, 32, 33, 34, 35, 36, 37, 38, 39, 40] (by decide +kernel) (by decide +kernel)
set_option maxRecDepth 20000 in
theorem gX6_leave_X6_turnHome : GoodIn wsX6_leave (wsV RX6 97 RX6 yX6_turnHome wsX6_turnHome) := goodIn_app (goodIn_of _ (by decide +kernel)) ggX6_leave_X6_turnHome
theorem dX6_leave_0 : decode cX6_leave 0 = .ok (.aload_n 0, 1) := by decide +kernel
theorem dX6_leave_1 : decode cX6_leave 1 = .ok (.getfield 52, 3) := by decide +kernel
theorem dX6_leave_4 : decode cX6_leave 4 = .ok (.iload_n 1, 1) := by decide +kernel
theorem dX6_leave_5 : decode cX6_leave 5 = .ok (.aload_n 0, 1) := by decide +kernel
theorem dX6_leave_6 : decode cX6_leave 6 = .ok (.getfield 46, 3) := by decide +kernel
theorem dX6_leave_9 : decode cX6_leave 9 = .ok (.iload_n 1, 1) := by decide +kernel
theorem dX6_leave_10 : decode cX6_leave 10 = .ok (.iaload, 1) := by decide +kernel
theorem dX6_leave_11 : decode cX6_leave 11 = .ok (.ifCond .ne 7, 3) := by decide +kernel
theorem dX6_leave_14 : decode cX6_leave 14 = .ok (.iconst 2, 1) := by decide +kernel
theorem dX6_leave_15 : decode cX6_leave 15 = .ok (.goto 4, 3) := by decide +kernel
theorem dX6_leave_18 : decode cX6_leave 18 = .ok (.iconst 3, 1) := by decide +kernel
theorem dX6_leave_19 : decode cX6_leave 19 = .ok (.iastore, 1) := by decide +kernel
theorem dX6_leave_20 : decode cX6_leave 20 = .ok (.iconst 0, 1) := by decide +kernel
theorem dX6_leave_21 : decode cX6_leave 21 = .ok (.istore_n 2, 1) := by decide +kernel
theorem dX6_leave_22 : decode cX6_leave 22 = .ok (.iload_n 2, 1) := by decide +kernel
theorem dX6_leave_23 : decode cX6_leave 23 = .ok (.aload_n 0, 1) := by decide +kernel
theorem dX6_leave_24 : decode cX6_leave 24 = .ok (.getfield 65, 3) := by decide +kernel
theorem dX6_leave_27 : decode cX6_leave 27 = .ok (.if_icmp .ge 64, 3) := by decide +kernel
theorem dX6_leave_30 : decode cX6_leave 30 = .ok (.aload_n 0, 1) := by decide +kernel
theorem dX6_leave_31 : decode cX6_leave 31 = .ok (.getfield 28, 3) := by decide +kernel
theorem dX6_leave_34 : decode cX6_leave 34 = .ok (.iload_n 2, 1) := by decide +kernel
theorem dX6_leave_35 : decode cX6_leave 35 = .ok (.iaload, 1) := by decide +kernel
theorem dX6_leave_36 : decode cX6_leave 36 = .ok (.iconst (-1), 1) := by decide +kernel
theorem dX6_leave_37 : decode cX6_leave 37 = .ok (.if_icmp .eq 48, 3) := by decide +kernel
theorem dX6_leave_40 : decode cX6_leave 40 = .ok (.aload_n 0, 1) := by decide +kernel
theorem dX6_leave_41 : decode cX6_leave 41 = .ok (.getfield 31, 3) := by decide +kernel
theorem dX6_leave_44 : decode cX6_leave 44 = .ok (.iload_n 2, 1) := by decide +kernel
theorem dX6_leave_45 : decode cX6_leave 45 = .ok (.iaload, 1) := by decide +kernel
theorem dX6_leave_46 : decode cX6_leave 46 = .ok (.iload_n 1, 1) := by decide +kernel
theorem dX6_leave_47 : decode cX6_leave 47 = .ok (.if_icmp .eq 6, 3) := by decide +kernel
theorem dX6_leave_50 : decode cX6_leave 50 = .ok (.goto 35, 3) := by decide +kernel
theorem dX6_leave_53 : decode cX6_leave 53 = .ok (.aload_n 0, 1) := by decide +kernel
theorem dX6_leave_54 : decode cX6_leave 54 = .ok (.getfield 22, 3) := by decide +kernel
theorem dX6_leave_57 : decode cX6_leave 57 = .ok (.iload_n 2, 1) := by decide +kernel
theorem dX6_leave_58 : decode cX6_leave 58 = .ok (.iaload, 1) := by decide +kernel
theorem dX6_leave_59 : decode cX6_leave 59 = .ok (.ifCond .ne 11, 3) := by decide +kernel
theorem dX6_leave_62 : decode cX6_leave 62 = .ok (.aload_n 0, 1) := by decide +kernel
theorem dX6_leave_63 : decode cX6_leave 63 = .ok (.iload_n 2, 1) := by decide +kernel
theorem dX6_leave_64 : decode cX6_leave 64 = .ok (.invokevirtual 93, 3) := by decide +kernel
theorem dX6_leave_67 : decode cX6_leave 67 = .ok (.goto 18, 3) := by decide +kernel
theorem dX6_leave_70 : decode cX6_leave 70 = .ok (.aload_n 0, 1) := by decide +kernel
theorem dX6_leave_71 : decode cX6_leave 71 = .ok (.getfield 22, 3) := by decide +kernel
theorem dX6_leave_74 : decode cX6_leave 74 = .ok (.iload_n 2, 1) := by decide +kernel
theorem dX6_leave_75 : decode cX6_leave 75 = .ok (.iaload, 1) := by decide +kernel
theorem dX6_leave_76 : decode cX6_leave 76 = .ok (.iconst 3, 1) := by decide +kernel
theorem dX6_leave_77 : decode cX6_leave 77 = .ok (.if_icmp .ge 8, 3) := by decide +kernel
theorem dX6_leave_80 : decode cX6_leave 80 = .ok (.aload_n 0, 1) := by decide +kernel
theorem dX6_leave_81 : decode cX6_leave 81 = .ok (.iload_n 2, 1) := by decide +kernel
theorem dX6_leave_82 : decode cX6_leave 82 = .ok (.invokevirtual 97, 3) := by decide +kernel
theorem dX6_leave_85 : decode cX6_leave 85 = .ok (.iinc 2 1, 3) := by decide +kernel
theorem dX6_leave_88 : decode cX6_leave 88 = .ok (.goto (-66), 3) := by decide +kernel
theorem dX6_leave_91 : decode cX6_leave 91 = .ok (.return_, 1) := by decide +kernel
set_option maxRecDepth 20000 in
theorem ggX6_hourOnce_X6_many : GoodIn wsX6_hourOnce wsX6_many := goodIn_r _ [14, 3, 4, 61, 62, 63, 64, 65, 66, 67, 68, 69, 70, 71, 72, 73, 74, 75, 76, 77, 78, 79, 80, 81, 82] (by decide +kernel) (by decide +kernel)
set_option maxRecDepth 20000 in
theorem gX6_hourOnce_X6_many : GoodIn wsX6_hourOnce (wsV RX6 71 RX6 yX6_many wsX6_many) := goodIn_app (goodIn_of _ (by decide +kernel)) ggX6_hourOnce_X6_many
set_option maxRecDepth 20000 in
theorem ggX6_hourOnce_X6_work : GoodIn wsX6_hourOnce wsX6_work := goodIn_r _ [18, 19, 6, 20, 21, 22, 23, 13, 24, 25, 26, 27, 28, 29, 30, 31, 32, 33, 34, 35, 36, 37, 38, 39, 40, 41, 42, 2, 43, 44, 45, 46, 47, 4, 8, 48, 49, 50, 51, 52, 53, 54, 55, 56, 61, 62, 63, 64, 65, 66, 67, 68, 69, 70, 71, 72, 73, 74, 75, 76, 77, 78, 79, 80, 81, 82] (by decide +kernel) (by decide +kernel)
set_option maxRecDepth 20000 in
theorem gX6_hourOnce_X6_work : GoodIn wsX6_hourOnce (wsV RX6 112 RX6 yX6_work wsX6_work) := goodIn_app (goodIn_of _ (by decide +kernel)) ggX6_hourOnce_X6_work
set_option maxRecDepth 20000 in
theorem ggX6_hourOnce_X6_leave : GoodIn wsX6_hourOnce wsX6_leave := goodIn_r _ [60, 4, 8, 5, 6, 47, 20, 39, 40, 41, 13, 42, 19, 2, 49, 50, 51, 52, 30, 61, 62, 63, 64, 65, 66, 67, 68, 69, 70, 71, 72, 73, 74, 75, 76, 77, 78, 79, 80, 81, 82] (by decide +kernel) (by decide +kernel)
set_option maxRecDepth 20000 in
theorem gX6_hourOnce_X6_leave : GoodIn wsX6_hourOnce (wsV RX6 115 RX6 yX6_leave wsX6_leave) := goodIn_app (goodIn_of _ (by decide +kernel)) ggX6_hourOnce_X6_leave
theorem dX6_hourOnce_0 : decode cX6_hourOnce 0 = .ok (.iconst 0, 1) := by decide +kernel
theorem dX6_hourOnce_1 : decode cX6_hourOnce 1 = .ok (.istore_n 1, 1) := by decide +kernel
theorem dX6_hourOnce_2 : decode cX6_hourOnce 2 = .ok (.iload_n 1, 1) := by decide +kernel
theorem dX6_hourOnce_3 : decode cX6_hourOnce 3 = .ok (.aload_n 0, 1) := by decide +kernel
theorem dX6_hourOnce_4 : decode cX6_hourOnce 4 = .ok (.getfield 68, 3) := by decide +kernel
theorem dX6_hourOnce_7 : decode cX6_hourOnce 7 = .ok (.if_icmp .ge 32, 3) := by decide +kernel
theorem dX6_hourOnce_10 : decode cX6_hourOnce 10 = .ok (.aload_n 0, 1) := by decide +kernel
theorem dX6_hourOnce_11 : decode cX6_hourOnce 11 = .ok (.getfield 43, 3) := by decide +kernel
theorem dX6_hourOnce_14 : decode cX6_hourOnce 14 = .ok (.iload_n 1, 1) := by decide +kernel
theorem dX6_hourOnce_15 : decode cX6_hourOnce 15 = .ok (.dup2, 1) := by decide +kernel
theorem dX6_hourOnce_16 : decode cX6_hourOnce 16 = .ok (.iaload, 1) := by decide +kernel
theorem dX6_hourOnce_17 : decode cX6_hourOnce 17 = .ok (.aload_n 0, 1) := by decide +kernel
theorem dX6_hourOnce_18 : decode cX6_hourOnce 18 = .ok (.getfield 43, 3) := by decide +kernel
theorem dX6_hourOnce_21 : decode cX6_hourOnce 21 = .ok (.iload_n 1, 1) := by decide +kernel
theorem dX6_hourOnce_22 : decode cX6_hourOnce 22 = .ok (.iaload, 1) := by decide +kernel
theorem dX6_hourOnce_23 : decode cX6_hourOnce 23 = .ok (.ifCond .le 7, 3) := by decide +kernel
theorem dX6_hourOnce_26 : decode cX6_hourOnce 26 = .ok (.iconst 1, 1) := by decide +kernel
theorem dX6_hourOnce_27 : decode cX6_hourOnce 27 = .ok (.goto 4, 3) := by decide +kernel
theorem dX6_hourOnce_30 : decode cX6_hourOnce 30 = .ok (.iconst 0, 1) := by decide +kernel
theorem dX6_hourOnce_31 : decode cX6_hourOnce 31 = .ok (.isub, 1) := by decide +kernel
theorem dX6_hourOnce_32 : decode cX6_hourOnce 32 = .ok (.iastore, 1) := by decide +kernel
theorem dX6_hourOnce_33 : decode cX6_hourOnce 33 = .ok (.iinc 1 1, 3) := by decide +kernel
theorem dX6_hourOnce_36 : decode cX6_hourOnce 36 = .ok (.goto (-34), 3) := by decide +kernel
theorem dX6_hourOnce_39 : decode cX6_hourOnce 39 = .ok (.iconst 0, 1) := by decide +kernel
theorem dX6_hourOnce_40 : decode cX6_hourOnce 40 = .ok (.istore_n 1, 1) := by decide +kernel
theorem dX6_hourOnce_41 : decode cX6_hourOnce 41 = .ok (.iload_n 1, 1) := by decide +kernel
theorem dX6_hourOnce_42 : decode cX6_hourOnce 42 = .ok (.aload_n 0, 1) := by decide +kernel
theorem dX6_hourOnce_43 : decode cX6_hourOnce 43 = .ok (.getfield 59, 3) := by decide +kernel
theorem dX6_hourOnce_46 : decode cX6_hourOnce 46 = .ok (.if_icmp .ge 43, 3) := by decide +kernel
theorem dX6_hourOnce_49 : decode cX6_hourOnce 49 = .ok (.aload_n 0, 1) := by decide +kernel
theorem dX6_hourOnce_50 : decode cX6_hourOnce 50 = .ok (.getfield 52, 3) := by decide +kernel
theorem dX6_hourOnce_53 : decode cX6_hourOnce 53 = .ok (.iload_n 1, 1) := by decide +kernel
theorem dX6_hourOnce_54 : decode cX6_hourOnce 54 = .ok (.aload_n 0, 1) := by decide +kernel
theorem dX6_hourOnce_55 : decode cX6_hourOnce 55 = .ok (.getfield 52, 3) := by decide +kernel
theorem dX6_hourOnce_58 : decode cX6_hourOnce 58 = .ok (.iload_n 1, 1) := by decide +kernel
theorem dX6_hourOnce_59 : decode cX6_hourOnce 59 = .ok (.iaload, 1) := by decide +kernel
theorem dX6_hourOnce_60 : decode cX6_hourOnce 60 = .ok (.ifCond .ne 16, 3) := by decide +kernel
theorem dX6_hourOnce_63 : decode cX6_hourOnce 63 = .ok (.aload_n 0, 1) := by decide +kernel
theorem dX6_hourOnce_64 : decode cX6_hourOnce 64 = .ok (.iconst 1, 1) := by decide +kernel
theorem dX6_hourOnce_65 : decode cX6_hourOnce 65 = .ok (.invokevirtual 71, 3) := by decide +kernel
theorem dX6_hourOnce_68 : decode cX6_hourOnce 68 = .ok (.iconst 2, 1) := by decide +kernel
theorem dX6_hourOnce_69 : decode cX6_hourOnce 69 = .ok (.if_icmp .ge 7, 3) := by decide +kernel
theorem dX6_hourOnce_72 : decode cX6_hourOnce 72 = .ok (.iconst 1, 1) := by decide +kernel
theorem dX6_hourOnce_73 : decode cX6_hourOnce 73 = .ok (.goto 9, 3) := by decide +kernel
theorem dX6_hourOnce_76 : decode cX6_hourOnce 76 = .ok (.aload_n 0, 1) := by decide +kernel
theorem dX6_hourOnce_77 : decode cX6_hourOnce 77 = .ok (.getfield 52, 3) := by decide +kernel
theorem dX6_hourOnce_80 : decode cX6_hourOnce 80 = .ok (.iload_n 1, 1) := by decide +kernel
theorem dX6_hourOnce_81 : decode cX6_hourOnce 81 = .ok (.iaload, 1) := by decide +kernel
theorem dX6_hourOnce_82 : decode cX6_hourOnce 82 = .ok (.iastore, 1) := by decide +kernel
theorem dX6_hourOnce_83 : decode cX6_hourOnce 83 = .ok (.iinc 1 1, 3) := by decide +kernel
theorem dX6_hourOnce_86 : decode cX6_hourOnce 86 = .ok (.goto (-45), 3) := by decide +kernel
theorem dX6_hourOnce_89 : decode cX6_hourOnce 89 = .ok (.iconst 0, 1) := by decide +kernel
theorem dX6_hourOnce_90 : decode cX6_hourOnce 90 = .ok (.istore_n 1, 1) := by decide +kernel
theorem dX6_hourOnce_91 : decode cX6_hourOnce 91 = .ok (.iload_n 1, 1) := by decide +kernel
theorem dX6_hourOnce_92 : decode cX6_hourOnce 92 = .ok (.aload_n 0, 1) := by decide +kernel
theorem dX6_hourOnce_93 : decode cX6_hourOnce 93 = .ok (.getfield 65, 3) := by decide +kernel
theorem dX6_hourOnce_96 : decode cX6_hourOnce 96 = .ok (.if_icmp .ge 24, 3) := by decide +kernel
theorem dX6_hourOnce_99 : decode cX6_hourOnce 99 = .ok (.aload_n 0, 1) := by decide +kernel
theorem dX6_hourOnce_100 : decode cX6_hourOnce 100 = .ok (.getfield 28, 3) := by decide +kernel
theorem dX6_hourOnce_103 : decode cX6_hourOnce 103 = .ok (.iload_n 1, 1) := by decide +kernel
theorem dX6_hourOnce_104 : decode cX6_hourOnce 104 = .ok (.iaload, 1) := by decide +kernel
theorem dX6_hourOnce_105 : decode cX6_hourOnce 105 = .ok (.iconst (-1), 1) := by decide +kernel
theorem dX6_hourOnce_106 : decode cX6_hourOnce 106 = .ok (.if_icmp .eq 8, 3) := by decide +kernel
theorem dX6_hourOnce_109 : decode cX6_hourOnce 109 = .ok (.aload_n 0, 1) := by decide +kernel
theorem dX6_hourOnce_110 : decode cX6_hourOnce 110 = .ok (.iload_n 1, 1) := by decide +kernel
theorem dX6_hourOnce_111 : decode cX6_hourOnce 111 = .ok (.invokevirtual 112, 3) := by decide +kernel
theorem dX6_hourOnce_114 : decode cX6_hourOnce 114 = .ok (.iinc 1 1, 3) := by decide +kernel
theorem dX6_hourOnce_117 : decode cX6_hourOnce 117 = .ok (.goto (-26), 3) := by decide +kernel
theorem dX6_hourOnce_120 : decode cX6_hourOnce 120 = .ok (.iconst 0, 1) := by decide +kernel
theorem dX6_hourOnce_121 : decode cX6_hourOnce 121 = .ok (.istore_n 1, 1) := by decide +kernel
theorem dX6_hourOnce_122 : decode cX6_hourOnce 122 = .ok (.aload_n 0, 1) := by decide +kernel
theorem dX6_hourOnce_123 : decode cX6_hourOnce 123 = .ok (.dup, 1) := by decide +kernel
theorem dX6_hourOnce_124 : decode cX6_hourOnce 124 = .ok (.getfield 75, 3) := by decide +kernel
theorem dX6_hourOnce_127 : decode cX6_hourOnce 127 = .ok (.iconst 1, 1) := by decide +kernel
theorem dX6_hourOnce_128 : decode cX6_hourOnce 128 = .ok (.iadd, 1) := by decide +kernel
theorem dX6_hourOnce_129 : decode cX6_hourOnce 129 = .ok (.putfield 75, 3) := by decide +kernel
theorem dX6_hourOnce_132 : decode cX6_hourOnce 132 = .ok (.iconst 0, 1) := by decide +kernel
theorem dX6_hourOnce_133 : decode cX6_hourOnce 133 = .ok (.istore_n 2, 1) := by decide +kernel
theorem dX6_hourOnce_134 : decode cX6_hourOnce 134 = .ok (.iload_n 2, 1) := by decide +kernel
theorem dX6_hourOnce_135 : decode cX6_hourOnce 135 = .ok (.aload_n 0, 1) := by decide +kernel
theorem dX6_hourOnce_136 : decode cX6_hourOnce 136 = .ok (.getfield 59, 3) := by decide +kernel
theorem dX6_hourOnce_139 : decode cX6_hourOnce 139 = .ok (.if_icmp .ge 49, 3) := by decide +kernel
theorem dX6_hourOnce_142 : decode cX6_hourOnce 142 = .ok (.aload_n 0, 1) := by decide +kernel
theorem dX6_hourOnce_143 : decode cX6_hourOnce 143 = .ok (.getfield 52, 3) := by decide +kernel
theorem dX6_hourOnce_146 : decode cX6_hourOnce 146 = .ok (.iload_n 2, 1) := by decide +kernel
theorem dX6_hourOnce_147 : decode cX6_hourOnce 147 = .ok (.iaload, 1) := by decide +kernel
theorem dX6_hourOnce_148 : decode cX6_hourOnce 148 = .ok (.iconst 2, 1) := by decide +kernel
theorem dX6_hourOnce_149 : decode cX6_hourOnce 149 = .ok (.if_icmp .ge 33, 3) := by decide +kernel
theorem dX6_hourOnce_152 : decode cX6_hourOnce 152 = .ok (.aload_n 0, 1) := by decide +kernel
theorem dX6_hourOnce_153 : decode cX6_hourOnce 153 = .ok (.getfield 46, 3) := by decide +kernel
theorem dX6_hourOnce_156 : decode cX6_hourOnce 156 = .ok (.iload_n 2, 1) := by decide +kernel
theorem dX6_hourOnce_157 : decode cX6_hourOnce 157 = .ok (.iaload, 1) := by decide +kernel
theorem dX6_hourOnce_158 : decode cX6_hourOnce 158 = .ok (.ifCond .eq 16, 3) := by decide +kernel
theorem dX6_hourOnce_161 : decode cX6_hourOnce 161 = .ok (.aload_n 0, 1) := by decide +kernel
theorem dX6_hourOnce_162 : decode cX6_hourOnce 162 = .ok (.getfield 49, 3) := by decide +kernel
theorem dX6_hourOnce_165 : decode cX6_hourOnce 165 = .ok (.iload_n 2, 1) := by decide +kernel
theorem dX6_hourOnce_166 : decode cX6_hourOnce 166 = .ok (.iaload, 1) := by decide +kernel
theorem dX6_hourOnce_167 : decode cX6_hourOnce 167 = .ok (.aload_n 0, 1) := by decide +kernel
theorem dX6_hourOnce_168 : decode cX6_hourOnce 168 = .ok (.getfield 75, 3) := by decide +kernel
theorem dX6_hourOnce_171 : decode cX6_hourOnce 171 = .ok (.if_icmp .ne 11, 3) := by decide +kernel
theorem dX6_hourOnce_174 : decode cX6_hourOnce 174 = .ok (.aload_n 0, 1) := by decide +kernel
theorem dX6_hourOnce_175 : decode cX6_hourOnce 175 = .ok (.iload_n 2, 1) := by decide +kernel
theorem dX6_hourOnce_176 : decode cX6_hourOnce 176 = .ok (.invokevirtual 115, 3) := by decide +kernel
theorem dX6_hourOnce_179 : decode cX6_hourOnce 179 = .ok (.iinc 1 1, 3) := by decide +kernel
theorem dX6_hourOnce_182 : decode cX6_hourOnce 182 = .ok (.iinc 2 1, 3) := by decide +kernel
theorem dX6_hourOnce_185 : decode cX6_hourOnce 185 = .ok (.goto (-51), 3) := by decide +kernel
theorem dX6_hourOnce_188 : decode cX6_hourOnce 188 = .ok (.iload_n 1, 1) := by decide +kernel
theorem dX6_hourOnce_189 : decode cX6_hourOnce 189 = .ok (.ireturn, 1) := by decide +kernel
set_option maxRecDepth 20000 in
theorem ggX6_hours_X6_hourOnce : GoodIn wsX6_hours wsX6_hourOnce := goodIn_r _ [6, 7, 8, 9, 10, 11, 12, 13, 14, 15, 16, 17, 18, 5, 19, 20, 21, 22, 23, 24, 25, 26, 27, 28, 29, 30, 31, 32, 33, 34, 35, 36, 37, 38, 39, 40, 41, 42, 43, 44, 45, 46, 47, 48, 49, 50, 51, 52, 53, 54, 55, 56, 57, 58, 59, 60, 61, 62, 63, 64, 65, 66, 67, 68, 69, 70, 71, 72, 73, 74, 75, 76, 77, 78, 79, 80, 81, 82, 83, 84, 85, 86, 87] (by decide +kernel) (by decide +kernel)
set_option maxRecDepth 20000 in
theorem gX6_hours_X6_hourOnce : GoodIn wsX6_hours (wsV RX6 118 RX6 yX6_hourOnce wsX6_hourOnce) := goodIn_app (goodIn_of _ (by decide +kernel)) ggX6_hours_X6_hourOnce
theorem dX6_hours_0 : decode cX6_hours 0 = .ok (.aload_n 0, 1) := by decide +kernel
theorem dX6_hours_1 : decode cX6_hours 1 = .ok (.iload_n 1, 1) := by decide +kernel
theorem dX6_hours_2 : decode cX6_hours 2 = .ok (.iconst 1, 1) := by decide +kernel
theorem dX6_hours_3 : decode cX6_hours 3 = .ok (.if_icmp .lt 10, 3) := by decide +kernel
theorem dX6_hours_6 : decode cX6_hours 6 = .ok (.iload_n 1, 1) := by decide +kernel
theorem dX6_hours_7 : decode cX6_hours 7 = .ok (.sipush 500, 3) := by decide +kernel
theorem dX6_hours_10 : decode cX6_hours 10 = .ok (.if_icmp .le 7, 3) := by decide +kernel
theorem dX6_hours_13 : decode cX6_hours 13 = .ok (.iconst 1, 1) := by decide +kernel
theorem dX6_hours_14 : decode cX6_hours 14 = .ok (.goto 4, 3) := by decide +kernel
theorem dX6_hours_17 : decode cX6_hours 17 = .ok (.iconst 0, 1) := by decide +kernel
theorem dX6_hours_18 : decode cX6_hours 18 = .ok (.putfield 55, 3) := by decide +kernel
theorem dX6_hours_21 : decode cX6_hours 21 = .ok (.iconst 0, 1) := by decide +kernel
theorem dX6_hours_22 : decode cX6_hours 22 = .ok (.istore_n 2, 1) := by decide +kernel
theorem dX6_hours_23 : decode cX6_hours 23 = .ok (.iconst 0, 1) := by decide +kernel
theorem dX6_hours_24 : decode cX6_hours 24 = .ok (.istore_n 3, 1) := by decide +kernel
theorem dX6_hours_25 : decode cX6_hours 25 = .ok (.iload_n 3, 1) := by decide +kernel
theorem dX6_hours_26 : decode cX6_hours 26 = .ok (.iload_n 1, 1) := by decide +kernel
theorem dX6_hours_27 : decode cX6_hours 27 = .ok (.if_icmp .ge 23, 3) := by decide +kernel
theorem dX6_hours_30 : decode cX6_hours 30 = .ok (.aload_n 0, 1) := by decide +kernel
theorem dX6_hours_31 : decode cX6_hours 31 = .ok (.getfield 55, 3) := by decide +kernel
theorem dX6_hours_34 : decode cX6_hours 34 = .ok (.ifCond .ne 16, 3) := by decide +kernel
theorem dX6_hours_37 : decode cX6_hours 37 = .ok (.iload_n 2, 1) := by decide +kernel
theorem dX6_hours_38 : decode cX6_hours 38 = .ok (.aload_n 0, 1) := by decide +kernel
theorem dX6_hours_39 : decode cX6_hours 39 = .ok (.invokevirtual 118, 3) := by decide +kernel
theorem dX6_hours_42 : decode cX6_hours 42 = .ok (.iadd, 1) := by decide +kernel
theorem dX6_hours_43 : decode cX6_hours 43 = .ok (.istore_n 2, 1) := by decide +kernel
theorem dX6_hours_44 : decode cX6_hours 44 = .ok (.iinc 3 1, 3) := by decide +kernel
theorem dX6_hours_47 : decode cX6_hours 47 = .ok (.goto (-22), 3) := by decide +kernel
theorem dX6_hours_50 : decode cX6_hours 50 = .ok (.iload_n 2, 1) := by decide +kernel
theorem dX6_hours_51 : decode cX6_hours 51 = .ok (.ireturn, 1) := by decide +kernel
set_option maxRecDepth 20000 in
theorem ggX6_told_X6_is : GoodIn wsX6_told wsX6_is := goodIn_r _ [5] (by decide +kernel) (by decide +kernel)
set_option maxRecDepth 20000 in
theorem gX6_told_X6_is : GoodIn wsX6_told (va_wsS RX6 78 yX6_is wsX6_is) := goodIn_app (goodIn_of _ (by decide +kernel)) ggX6_told_X6_is
theorem dX6_told_0 : decode cX6_told 0 = .ok (.aload_n 0, 1) := by decide +kernel
theorem dX6_told_1 : decode cX6_told 1 = .ok (.iload_n 2, 1) := by decide +kernel
theorem dX6_told_2 : decode cX6_told 2 = .ok (.iload_n 3, 1) := by decide +kernel
theorem dX6_told_3 : decode cX6_told 3 = .ok (.invokestatic 78, 3) := by decide +kernel
theorem dX6_told_6 : decode cX6_told 6 = .ok (.ifCond .eq 7, 3) := by decide +kernel
theorem dX6_told_9 : decode cX6_told 9 = .ok (.iconst 0, 1) := by decide +kernel
theorem dX6_told_10 : decode cX6_told 10 = .ok (.goto 4, 3) := by decide +kernel
theorem dX6_told_13 : decode cX6_told 13 = .ok (.iconst 1, 1) := by decide +kernel
theorem dX6_told_14 : decode cX6_told 14 = .ok (.putfield 55, 3) := by decide +kernel
theorem dX6_told_17 : decode cX6_told 17 = .ok (.aload_n 0, 1) := by decide +kernel
theorem dX6_told_18 : decode cX6_told 18 = .ok (.getfield 55, 3) := by decide +kernel
theorem dX6_told_21 : decode cX6_told 21 = .ok (.ifCond .ne 9, 3) := by decide +kernel
theorem dX6_told_24 : decode cX6_told 24 = .ok (.aload_n 1, 1) := by decide +kernel
theorem dX6_told_25 : decode cX6_told 25 = .ok (.iload_n 2, 1) := by decide +kernel
theorem dX6_told_26 : decode cX6_told 26 = .ok (.iaload, 1) := by decide +kernel
theorem dX6_told_27 : decode cX6_told 27 = .ok (.goto 4, 3) := by decide +kernel
theorem dX6_told_30 : decode cX6_told 30 = .ok (.iconst 0, 1) := by decide +kernel
theorem dX6_told_31 : decode cX6_told 31 = .ok (.ireturn, 1) := by decide +kernel
theorem dX6_clock_0 : decode cX6_clock 0 = .ok (.aload_n 0, 1) := by decide +kernel
theorem dX6_clock_1 : decode cX6_clock 1 = .ok (.iconst 0, 1) := by decide +kernel
theorem dX6_clock_2 : decode cX6_clock 2 = .ok (.putfield 55, 3) := by decide +kernel
theorem dX6_clock_5 : decode cX6_clock 5 = .ok (.aload_n 0, 1) := by decide +kernel
theorem dX6_clock_6 : decode cX6_clock 6 = .ok (.getfield 75, 3) := by decide +kernel
theorem dX6_clock_9 : decode cX6_clock 9 = .ok (.ireturn, 1) := by decide +kernel
set_option maxRecDepth 20000 in
theorem ggX6_coalIn_X6_told : GoodIn wsX6_coalIn wsX6_told := goodIn_r _ [7, 8, 9, 10, 6, 11, 12, 13, 14, 15, 16, 17, 18, 19, 20, 21, 22, 23, 24, 25, 26, 27, 28, 29, 30, 31, 32, 33] (by decide +kernel) (by decide +kernel)
set_option maxRecDepth 20000 in
theorem gX6_coalIn_X6_told : GoodIn wsX6_coalIn (wsV RX6 122 RX6 yX6_told wsX6_told) := goodIn_app (goodIn_of _ (by decide +kernel)) ggX6_coalIn_X6_told
theorem dX6_coalIn_0 : decode cX6_coalIn 0 = .ok (.aload_n 0, 1) := by decide +kernel
theorem dX6_coalIn_1 : decode cX6_coalIn 1 = .ok (.aload_n 0, 1) := by decide +kernel
theorem dX6_coalIn_2 : decode cX6_coalIn 2 = .ok (.getfield 7, 3) := by decide +kernel
theorem dX6_coalIn_5 : decode cX6_coalIn 5 = .ok (.iload_n 1, 1) := by decide +kernel
theorem dX6_coalIn_6 : decode cX6_coalIn 6 = .ok (.aload_n 0, 1) := by decide +kernel
theorem dX6_coalIn_7 : decode cX6_coalIn 7 = .ok (.getfield 62, 3) := by decide +kernel
theorem dX6_coalIn_10 : decode cX6_coalIn 10 = .ok (.invokevirtual 122, 3) := by decide +kernel
theorem dX6_coalIn_13 : decode cX6_coalIn 13 = .ok (.ireturn, 1) := by decide +kernel
set_option maxRecDepth 20000 in
theorem ggX6_placeOf_X6_told : GoodIn wsX6_placeOf wsX6_told := goodIn_r _ [7, 8, 9, 10, 6, 11, 12, 13, 14, 15, 16, 17, 18, 19, 20, 21, 22, 23, 24, 25, 26, 27, 28, 29, 30, 31, 32, 33] (by decide +kernel) (by decide +kernel)
set_option maxRecDepth 20000 in
theorem gX6_placeOf_X6_told : GoodIn wsX6_placeOf (wsV RX6 122 RX6 yX6_told wsX6_told) := goodIn_app (goodIn_of _ (by decide +kernel)) ggX6_placeOf_X6_told
theorem dX6_placeOf_0 : decode cX6_placeOf 0 = .ok (.aload_n 0, 1) := by decide +kernel
theorem dX6_placeOf_1 : decode cX6_placeOf 1 = .ok (.aload_n 0, 1) := by decide +kernel
theorem dX6_placeOf_2 : decode cX6_placeOf 2 = .ok (.getfield 22, 3) := by decide +kernel
theorem dX6_placeOf_5 : decode cX6_placeOf 5 = .ok (.iload_n 1, 1) := by decide +kernel
theorem dX6_placeOf_6 : decode cX6_placeOf 6 = .ok (.aload_n 0, 1) := by decide +kernel
theorem dX6_placeOf_7 : decode cX6_placeOf 7 = .ok (.getfield 65, 3) := by decide +kernel
theorem dX6_placeOf_10 : decode cX6_placeOf 10 = .ok (.invokevirtual 122, 3) := by decide +kernel
theorem dX6_placeOf_13 : decode cX6_placeOf 13 = .ok (.ireturn, 1) := by decide +kernel
set_option maxRecDepth 20000 in
theorem ggX6_loadOf_X6_told : GoodIn wsX6_loadOf wsX6_told := goodIn_r _ [7, 8, 9, 10, 6, 11, 12, 13, 14, 15, 16, 17, 18, 19, 20, 21, 22, 23, 24, 25, 26, 27, 28, 29, 30, 31, 32, 33] (by decide +kernel) (by decide +kernel)
set_option maxRecDepth 20000 in
theorem gX6_loadOf_X6_told : GoodIn wsX6_loadOf (wsV RX6 122 RX6 yX6_told wsX6_told) := goodIn_app (goodIn_of _ (by decide +kernel)) ggX6_loadOf_X6_told
theorem dX6_loadOf_0 : decode cX6_loadOf 0 = .ok (.aload_n 0, 1) := by decide +kernel
theorem dX6_loadOf_1 : decode cX6_loadOf 1 = .ok (.aload_n 0, 1) := by decide +kernel
theorem dX6_loadOf_2 : decode cX6_loadOf 2 = .ok (.getfield 16, 3) := by decide +kernel
theorem dX6_loadOf_5 : decode cX6_loadOf 5 = .ok (.iload_n 1, 1) := by decide +kernel
theorem dX6_loadOf_6 : decode cX6_loadOf 6 = .ok (.aload_n 0, 1) := by decide +kernel
theorem dX6_loadOf_7 : decode cX6_loadOf 7 = .ok (.getfield 65, 3) := by decide +kernel
theorem dX6_loadOf_10 : decode cX6_loadOf 10 = .ok (.invokevirtual 122, 3) := by decide +kernel
theorem dX6_loadOf_13 : decode cX6_loadOf 13 = .ok (.ireturn, 1) := by decide +kernel
set_option maxRecDepth 20000 in
theorem ggX6_dustIn_X6_told : GoodIn wsX6_dustIn wsX6_told := goodIn_r _ [7, 8, 9, 10, 6, 11, 12, 13, 14, 15, 16, 17, 18, 19, 20, 21, 22, 23, 24, 25, 26, 27, 28, 29, 30, 31, 32, 33] (by decide +kernel) (by decide +kernel)
set_option maxRecDepth 20000 in
theorem gX6_dustIn_X6_told : GoodIn wsX6_dustIn (wsV RX6 122 RX6 yX6_told wsX6_told) := goodIn_app (goodIn_of _ (by decide +kernel)) ggX6_dustIn_X6_told
theorem dX6_dustIn_0 : decode cX6_dustIn 0 = .ok (.aload_n 0, 1) := by decide +kernel
theorem dX6_dustIn_1 : decode cX6_dustIn 1 = .ok (.aload_n 0, 1) := by decide +kernel
theorem dX6_dustIn_2 : decode cX6_dustIn 2 = .ok (.getfield 19, 3) := by decide +kernel
theorem dX6_dustIn_5 : decode cX6_dustIn 5 = .ok (.iload_n 1, 1) := by decide +kernel
theorem dX6_dustIn_6 : decode cX6_dustIn 6 = .ok (.aload_n 0, 1) := by decide +kernel
theorem dX6_dustIn_7 : decode cX6_dustIn 7 = .ok (.getfield 65, 3) := by decide +kernel
theorem dX6_dustIn_10 : decode cX6_dustIn 10 = .ok (.invokevirtual 122, 3) := by decide +kernel
theorem dX6_dustIn_13 : decode cX6_dustIn 13 = .ok (.ireturn, 1) := by decide +kernel
set_option maxRecDepth 20000 in
theorem ggX6_gangOn_X6_told : GoodIn wsX6_gangOn wsX6_told := goodIn_r _ [7, 8, 9, 10, 6, 11, 12, 13, 14, 15, 16, 17, 18, 19, 20, 21, 22, 23, 24, 25, 26, 27, 28, 29, 30, 31, 32, 33] (by decide +kernel) (by decide +kernel)
set_option maxRecDepth 20000 in
theorem gX6_gangOn_X6_told : GoodIn wsX6_gangOn (wsV RX6 122 RX6 yX6_told wsX6_told) := goodIn_app (goodIn_of _ (by decide +kernel)) ggX6_gangOn_X6_told
theorem dX6_gangOn_0 : decode cX6_gangOn 0 = .ok (.aload_n 0, 1) := by decide +kernel
theorem dX6_gangOn_1 : decode cX6_gangOn 1 = .ok (.aload_n 0, 1) := by decide +kernel
theorem dX6_gangOn_2 : decode cX6_gangOn 2 = .ok (.getfield 28, 3) := by decide +kernel
theorem dX6_gangOn_5 : decode cX6_gangOn 5 = .ok (.iload_n 1, 1) := by decide +kernel
theorem dX6_gangOn_6 : decode cX6_gangOn 6 = .ok (.aload_n 0, 1) := by decide +kernel
theorem dX6_gangOn_7 : decode cX6_gangOn 7 = .ok (.getfield 65, 3) := by decide +kernel
theorem dX6_gangOn_10 : decode cX6_gangOn 10 = .ok (.invokevirtual 122, 3) := by decide +kernel
theorem dX6_gangOn_13 : decode cX6_gangOn 13 = .ok (.ireturn, 1) := by decide +kernel
set_option maxRecDepth 20000 in
theorem ggX6_restOf_X6_told : GoodIn wsX6_restOf wsX6_told := goodIn_r _ [7, 8, 9, 10, 6, 11, 12, 13, 14, 15, 16, 17, 18, 19, 20, 21, 22, 23, 24, 25, 26, 27, 28, 29, 30, 31, 32, 33] (by decide +kernel) (by decide +kernel)
set_option maxRecDepth 20000 in
theorem gX6_restOf_X6_told : GoodIn wsX6_restOf (wsV RX6 122 RX6 yX6_told wsX6_told) := goodIn_app (goodIn_of _ (by decide +kernel)) ggX6_restOf_X6_told
theorem dX6_restOf_0 : decode cX6_restOf 0 = .ok (.aload_n 0, 1) := by decide +kernel
theorem dX6_restOf_1 : decode cX6_restOf 1 = .ok (.aload_n 0, 1) := by decide +kernel
theorem dX6_restOf_2 : decode cX6_restOf 2 = .ok (.getfield 43, 3) := by decide +kernel
theorem dX6_restOf_5 : decode cX6_restOf 5 = .ok (.iload_n 1, 1) := by decide +kernel
theorem dX6_restOf_6 : decode cX6_restOf 6 = .ok (.aload_n 0, 1) := by decide +kernel
theorem dX6_restOf_7 : decode cX6_restOf 7 = .ok (.getfield 68, 3) := by decide +kernel
theorem dX6_restOf_10 : decode cX6_restOf 10 = .ok (.invokevirtual 122, 3) := by decide +kernel
theorem dX6_restOf_13 : decode cX6_restOf 13 = .ok (.ireturn, 1) := by decide +kernel
set_option maxRecDepth 20000 in
theorem ggX6_fateOf_X6_told : GoodIn wsX6_fateOf wsX6_told := goodIn_r _ [7, 8, 9, 10, 6, 11, 12, 13, 14, 15, 16, 17, 18, 19, 20, 21, 22, 23, 24, 25, 26, 27, 28, 29, 30, 31, 32, 33] (by decide +kernel) (by decide +kernel)
set_option maxRecDepth 20000 in
theorem gX6_fateOf_X6_told : GoodIn wsX6_fateOf (wsV RX6 122 RX6 yX6_told wsX6_told) := goodIn_app (goodIn_of _ (by decide +kernel)) ggX6_fateOf_X6_told
theorem dX6_fateOf_0 : decode cX6_fateOf 0 = .ok (.aload_n 0, 1) := by decide +kernel
theorem dX6_fateOf_1 : decode cX6_fateOf 1 = .ok (.aload_n 0, 1) := by decide +kernel
theorem dX6_fateOf_2 : decode cX6_fateOf 2 = .ok (.getfield 52, 3) := by decide +kernel
theorem dX6_fateOf_5 : decode cX6_fateOf 5 = .ok (.iload_n 1, 1) := by decide +kernel
theorem dX6_fateOf_6 : decode cX6_fateOf 6 = .ok (.aload_n 0, 1) := by decide +kernel
theorem dX6_fateOf_7 : decode cX6_fateOf 7 = .ok (.getfield 59, 3) := by decide +kernel
theorem dX6_fateOf_10 : decode cX6_fateOf 10 = .ok (.invokevirtual 122, 3) := by decide +kernel
theorem dX6_fateOf_13 : decode cX6_fateOf 13 = .ok (.ireturn, 1) := by decide +kernel
set_option maxRecDepth 20000 in
theorem ggX6_wantOf_X6_told : GoodIn wsX6_wantOf wsX6_told := goodIn_r _ [7, 8, 9, 10, 6, 11, 12, 13, 14, 15, 16, 17, 18, 19, 20, 21, 22, 23, 24, 25, 26, 27, 28, 29, 30, 31, 32, 33] (by decide +kernel) (by decide +kernel)
set_option maxRecDepth 20000 in
theorem gX6_wantOf_X6_told : GoodIn wsX6_wantOf (wsV RX6 122 RX6 yX6_told wsX6_told) := goodIn_app (goodIn_of _ (by decide +kernel)) ggX6_wantOf_X6_told
theorem dX6_wantOf_0 : decode cX6_wantOf 0 = .ok (.aload_n 0, 1) := by decide +kernel
theorem dX6_wantOf_1 : decode cX6_wantOf 1 = .ok (.aload_n 0, 1) := by decide +kernel
theorem dX6_wantOf_2 : decode cX6_wantOf 2 = .ok (.getfield 46, 3) := by decide +kernel
theorem dX6_wantOf_5 : decode cX6_wantOf 5 = .ok (.iload_n 1, 1) := by decide +kernel
theorem dX6_wantOf_6 : decode cX6_wantOf 6 = .ok (.aload_n 0, 1) := by decide +kernel
theorem dX6_wantOf_7 : decode cX6_wantOf 7 = .ok (.getfield 59, 3) := by decide +kernel
theorem dX6_wantOf_10 : decode cX6_wantOf 10 = .ok (.invokevirtual 122, 3) := by decide +kernel
theorem dX6_wantOf_13 : decode cX6_wantOf 13 = .ok (.ireturn, 1) := by decide +kernel
theorem dX6_outside_0 : decode cX6_outside 0 = .ok (.aload_n 0, 1) := by decide +kernel
theorem dX6_outside_1 : decode cX6_outside 1 = .ok (.iload_n 1, 1) := by decide +kernel
theorem dX6_outside_2 : decode cX6_outside 2 = .ok (.ifCond .ge 7, 3) := by decide +kernel
theorem dX6_outside_5 : decode cX6_outside 5 = .ok (.iconst 1, 1) := by decide +kernel
theorem dX6_outside_6 : decode cX6_outside 6 = .ok (.goto 4, 3) := by decide +kernel
theorem dX6_outside_9 : decode cX6_outside 9 = .ok (.iconst 0, 1) := by decide +kernel
theorem dX6_outside_10 : decode cX6_outside 10 = .ok (.putfield 55, 3) := by decide +kernel
theorem dX6_outside_13 : decode cX6_outside 13 = .ok (.iload_n 1, 1) := by decide +kernel
theorem dX6_outside_14 : decode cX6_outside 14 = .ok (.istore_n 2, 1) := by decide +kernel
theorem dX6_outside_15 : decode cX6_outside 15 = .ok (.iconst 0, 1) := by decide +kernel
theorem dX6_outside_16 : decode cX6_outside 16 = .ok (.istore_n 3, 1) := by decide +kernel
theorem dX6_outside_17 : decode cX6_outside 17 = .ok (.iload_n 3, 1) := by decide +kernel
theorem dX6_outside_18 : decode cX6_outside 18 = .ok (.aload_n 0, 1) := by decide +kernel
theorem dX6_outside_19 : decode cX6_outside 19 = .ok (.getfield 59, 3) := by decide +kernel
theorem dX6_outside_22 : decode cX6_outside 22 = .ok (.if_icmp .ge 48, 3) := by decide +kernel
theorem dX6_outside_25 : decode cX6_outside 25 = .ok (.aload_n 0, 1) := by decide +kernel
theorem dX6_outside_26 : decode cX6_outside 26 = .ok (.getfield 55, 3) := by decide +kernel
theorem dX6_outside_29 : decode cX6_outside 29 = .ok (.ifCond .ne 41, 3) := by decide +kernel
theorem dX6_outside_32 : decode cX6_outside 32 = .ok (.aload_n 0, 1) := by decide +kernel
theorem dX6_outside_33 : decode cX6_outside 33 = .ok (.getfield 52, 3) := by decide +kernel
theorem dX6_outside_36 : decode cX6_outside 36 = .ok (.iload_n 3, 1) := by decide +kernel
theorem dX6_outside_37 : decode cX6_outside 37 = .ok (.iaload, 1) := by decide +kernel
theorem dX6_outside_38 : decode cX6_outside 38 = .ok (.ifCond .ne 9, 3) := by decide +kernel
theorem dX6_outside_41 : decode cX6_outside 41 = .ok (.iload_n 2, 1) := by decide +kernel
theorem dX6_outside_42 : decode cX6_outside 42 = .ok (.ifCond .ne 5, 3) := by decide +kernel
theorem dX6_outside_45 : decode cX6_outside 45 = .ok (.iload_n 3, 1) := by decide +kernel
theorem dX6_outside_46 : decode cX6_outside 46 = .ok (.ireturn, 1) := by decide +kernel
theorem dX6_outside_47 : decode cX6_outside 47 = .ok (.iload_n 2, 1) := by decide +kernel
theorem dX6_outside_48 : decode cX6_outside 48 = .ok (.aload_n 0, 1) := by decide +kernel
theorem dX6_outside_49 : decode cX6_outside 49 = .ok (.getfield 52, 3) := by decide +kernel
theorem dX6_outside_52 : decode cX6_outside 52 = .ok (.iload_n 3, 1) := by decide +kernel
theorem dX6_outside_53 : decode cX6_outside 53 = .ok (.iaload, 1) := by decide +kernel
theorem dX6_outside_54 : decode cX6_outside 54 = .ok (.ifCond .ne 7, 3) := by decide +kernel
theorem dX6_outside_57 : decode cX6_outside 57 = .ok (.iconst 1, 1) := by decide +kernel
theorem dX6_outside_58 : decode cX6_outside 58 = .ok (.goto 4, 3) := by decide +kernel
theorem dX6_outside_61 : decode cX6_outside 61 = .ok (.iconst 0, 1) := by decide +kernel
theorem dX6_outside_62 : decode cX6_outside 62 = .ok (.isub, 1) := by decide +kernel
theorem dX6_outside_63 : decode cX6_outside 63 = .ok (.istore_n 2, 1) := by decide +kernel
theorem dX6_outside_64 : decode cX6_outside 64 = .ok (.iinc 3 1, 3) := by decide +kernel
theorem dX6_outside_67 : decode cX6_outside 67 = .ok (.goto (-50), 3) := by decide +kernel
theorem dX6_outside_70 : decode cX6_outside 70 = .ok (.aload_n 0, 1) := by decide +kernel
theorem dX6_outside_71 : decode cX6_outside 71 = .ok (.getfield 55, 3) := by decide +kernel
theorem dX6_outside_74 : decode cX6_outside 74 = .ok (.ifCond .ne 7, 3) := by decide +kernel
theorem dX6_outside_77 : decode cX6_outside 77 = .ok (.iconst (-1), 1) := by decide +kernel
theorem dX6_outside_78 : decode cX6_outside 78 = .ok (.goto 4, 3) := by decide +kernel
theorem dX6_outside_81 : decode cX6_outside 81 = .ok (.iconst 0, 1) := by decide +kernel
theorem dX6_outside_82 : decode cX6_outside 82 = .ok (.ireturn, 1) := by decide +kernel
theorem dX6_delivered_0 : decode cX6_delivered 0 = .ok (.aload_n 0, 1) := by decide +kernel
theorem dX6_delivered_1 : decode cX6_delivered 1 = .ok (.iconst 0, 1) := by decide +kernel
theorem dX6_delivered_2 : decode cX6_delivered 2 = .ok (.putfield 55, 3) := by decide +kernel
theorem dX6_delivered_5 : decode cX6_delivered 5 = .ok (.aload_n 0, 1) := by decide +kernel
theorem dX6_delivered_6 : decode cX6_delivered 6 = .ok (.getfield 100, 3) := by decide +kernel
theorem dX6_delivered_9 : decode cX6_delivered 9 = .ok (.ireturn, 1) := by decide +kernel
end
section
/-! the reference's methods as functions of its state -/
abbrev nT (x : Int32) : Nat := x.toNatClampNeg
theorem ZR.cast {κ : Kx} {xm : Nat} {b : Nat → Nat} {M M1 : MS} {L : List Nat} {f0 f : Nat → va_E} (h : ZR κ xm b M L f0 f) (e : M = M1) : ZR κ xm b M1 L f0 f := e ▸ h
def isF (x y : Int32) : Int32 := if x < 0 then 0 else if y ≤ x then 0 else 1
def leastF (x y : Int32) : Int32 := if y ≤ x then y else x
def manyF (M : MS) (how : Int32) : Nat → Int32
  | 0 => 0
  | n + 1 => manyF M how n + (if M 14 n = how then 1 else 0)
def hulkT (M : MS) (v : Int32) : Int32 := if v < 0 then 1 else if v ≤ 20000 then (if M 15 0 = 3 then 2 else 0) else 1
def hulkF (M : MS) (v : Int32) : MS := if hulkT M v = 0 then scM (stM (scM M 21 0) 0 (nT (M 15 0)) v) 15 (M 15 0 + 1) else scM M 21 (hulkT M v)
def lighterT (M : MS) (v : Int32) : Int32 := if v < 20 then 1 else if v ≤ 500 then (if M 16 0 = 6 then 2 else if M 15 0 = 0 then 2 else 0) else 1
def lighterF (M : MS) (v : Int32) : MS := if lighterT M v = 0 then scM (stM (stM (scM M 21 0) 1 (nT (M 16 0)) v) 6 (nT (M 16 0)) (-1)) 16 (M 16 0 + 1) else scM M 21 (lighterT M v)
def gangT (M : MS) (v : Int32) : Int32 := if v < 1 then 1 else if v ≤ 20 then (if M 17 0 = 6 then 2 else 0) else 1
def gangF (M : MS) (v : Int32) : MS := if gangT M v = 0 then scM (stM (scM M 21 0) 9 (nT (M 17 0)) v) 17 (M 17 0 + 1) else scM M 21 (gangT M v)
def steamerT (M : MS) (ns : Nat) (v w : Int32) : Int32 := if v < 1 then 1 else if 9999 < v then 1 else if w < 1 then 1 else if w ≤ 500 then (if manyF M 0 ns = 8 then 2 else 0) else 1
def steamerF (M : MS) (ns : Nat) (v w : Int32) : MS := if steamerT M ns v w = 0 then scM (stM (stM (scM M 21 0) 12 (nT (M 18 0)) v) 13 (nT (M 18 0)) (M 19 0 + w)) 18 (M 18 0 + 1) else scM M 21 (steamerT M ns v w)
/-- 1 where the gang is aboard a lighter, or rests -/
def busyF (M : MS) (g : Nat) : Nat → Int32
  | 0 => if M 11 g ≤ 0 then 0 else 1
  | n + 1 => if busyF M g n = 0 then (if M 6 n = nI g then 1 else 0) else 1
def endF (M : MS) (i : Nat) : MS := if M 10 (nT (M 6 i)) < 8 then stM (stM M 6 i (-1)) 4 i 0 else stM (stM (stM (stM M 6 i (-1)) 4 i 0) 11 (nT (M 6 i)) 8) 10 (nT (M 6 i)) 0
def shovF (M : MS) (i : Nat) (most : Int32) : Int32 := if 1 ≤ 4 * M 9 (nT (M 6 i)) - M 3 i / 5 then leastF (4 * M 9 (nT (M 6 i)) - M 3 i / 5) most else leastF 1 most
def turnF (M : MS) (i : Nat) : MS := stM (stM M 4 i 3) 8 i 1
def fillF (M : MS) (i h : Nat) (mv : Int32) : MS := stM (stM (stM M 0 h (M 0 h - mv)) 2 i (M 2 i + (mv - mv / 50))) 3 i (M 3 i + mv / 50)
def castF (M : MS) (i : Nat) : MS := if M 2 i ≤ 0 then endF M i else stM (stM M 4 i 1) 8 i 2
def atHulkF (M : MS) (i : Nat) : MS := if M 0 (nT (M 5 i)) ≤ 0 then castF M i else if M 1 i - M 2 i ≤ 0 then castF M i else fillF M i (nT (M 5 i)) (shovF M i (leastF (M 0 (nT (M 5 i))) (M 1 i - M 2 i)))
def pourF (M : MS) (i t : Nat) (mv : Int32) : MS := scM (stM (stM (stM M 2 i (M 2 i - mv)) 3 i (M 3 i + mv / 50)) 12 t (M 12 t - (mv - mv / 50))) 20 (M 20 0 + (mv - mv / 50))
def atSteamerF (M : MS) (i : Nat) : MS := if M 2 i = 0 then turnF M i else if M 14 (nT (M 7 i)) = 1 then pourF M i (nT (M 7 i)) (shovF M i (leastF (M 2 i) (M 12 (nT (M 7 i))))) else M
def goF (M : MS) (i : Nat) : MS := if M 8 i ≤ 0 then (if M 4 i = 1 then stM M 4 i 2 else endF M i) else M
def goOnF (M : MS) (i : Nat) : MS := goF (stM M 8 i (M 8 i - 1)) i
def placeF (M : MS) (i : Nat) : MS := if M 4 i = 0 then atHulkF M i else if M 4 i = 2 then atSteamerF M i else goOnF M i
def workF (M : MS) (i : Nat) : MS := placeF (stM M 10 (nT (M 6 i)) (M 10 (nT (M 6 i)) + 1)) i
def leaveStep (M : MS) (s i : Nat) : MS := if M 6 i = -1 then M else if M 7 i = nI s then (if M 4 i = 0 then endF M i else if 3 ≤ M 4 i then M else turnF M i) else M
def leaveLoop (M : MS) (s : Nat) : Nat → MS
  | 0 => M
  | n + 1 => leaveStep (leaveLoop M s n) s n
def leaveF (M : MS) (s nl : Nat) : MS := leaveLoop (stM M 14 s (if M 12 s = 0 then 2 else 3)) s nl
def restLoop (M : MS) : Nat → MS
  | 0 => M
  | n + 1 => stM (restLoop M n) 11 n (restLoop M n 11 n - (if restLoop M n 11 n ≤ 0 then 0 else 1))
def buoyStep (M : MS) (ns i : Nat) : MS := stM M 14 i (if M 14 i = 0 then (if 2 ≤ manyF M 1 ns then M 14 i else 1) else M 14 i)
def buoyLoop (M : MS) (ns : Nat) : Nat → MS
  | 0 => M
  | n + 1 => buoyStep (buoyLoop M ns n) ns n
def workLoop (M : MS) : Nat → MS
  | 0 => M
  | n + 1 => if workLoop M n 6 n = -1 then workLoop M n else workF (workLoop M n) n
/-- steamer i leaves, if it is time: the state, how many so far -/
def goneStep (q : MS × Int32) (nl i : Nat) : MS × Int32 := if 2 ≤ q.1 14 i then q else if q.1 12 i = 0 then (leaveF q.1 i nl, q.2 + 1) else if q.1 13 i = q.1 19 0 then (leaveF q.1 i nl, q.2 + 1) else q
def goneLoop (M : MS) (nl : Nat) : Nat → MS × Int32
  | 0 => (M, 0)
  | n + 1 => goneStep (goneLoop M nl n) nl n
def midF (M : MS) (nl ng ns : Nat) : MS := workLoop (buoyLoop (restLoop M ng) ns ns) nl
def hourF (M : MS) (nl ng ns : Nat) : MS × Int32 := goneLoop (scM (midF M nl ng ns) 19 (midF M nl ng ns 19 0 + 1)) nl ns
def hoursLoop (M : MS) (nl ng ns : Nat) : Nat → MS × Int32
  | 0 => (M, 0)
  | n + 1 => ((hourF (hoursLoop M nl ng ns n).1 nl ng ns).1, (hoursLoop M nl ng ns n).2 + (hourF (hoursLoop M nl ng ns n).1 nl ng ns).2)
/-- the numbers, the homes and the bounds stay; an order may end -/
def Keep (M M1 : MS) : Prop := M1 15 = M 15 ∧ M1 16 = M 16 ∧ M1 17 = M 17 ∧ M1 18 = M 18 ∧ M1 5 = M 5 ∧ M1 7 = M 7 ∧ ∀ i, M1 6 i = M 6 i ∨ M1 6 i = -1
theorem Keep.rf {M : MS} : Keep M M := ⟨rfl, rfl, rfl, rfl, rfl, rfl, fun _ => Or.inl rfl⟩
theorem Keep.tr {M M1 M2 : MS} (h : Keep M M1) (h2 : Keep M1 M2) : Keep M M2 :=
  ⟨h2.1.trans h.1, h2.2.1.trans h.2.1, h2.2.2.1.trans h.2.2.1, h2.2.2.2.1.trans h.2.2.2.1, h2.2.2.2.2.1.trans h.2.2.2.2.1, h2.2.2.2.2.2.1.trans h.2.2.2.2.2.1, fun i => by
    rcases h2.2.2.2.2.2.2 i with e | e
    · rcases h.2.2.2.2.2.2 i with e2 | e2
      · exact Or.inl (e.trans e2)
      · exact Or.inr (e.trans e2)
    · exact Or.inr e⟩
theorem Keep.st {M M1 : MS} (h : Keep M M1) {k i : Nat} {x : Int32} (hk : k ≠ 15 ∧ k ≠ 16 ∧ k ≠ 17 ∧ k ≠ 18 ∧ k ≠ 5 ∧ k ≠ 7 ∧ k ≠ 6) : Keep M (stM M1 k i x) := by
  have e : ∀ j, j ≠ k → stM M1 k i x j = M1 j := fun j hj => by simp [stM, va_up, hj]
  obtain ⟨h1, h2, h3, h4, h5, h6, h7⟩ := h
  obtain ⟨k1, k2, k3, k4, k5, k6, k7⟩ := hk
  exact ⟨(e 15 k1.symm).trans h1, (e 16 k2.symm).trans h2, (e 17 k3.symm).trans h3, (e 18 k4.symm).trans h4, (e 5 k5.symm).trans h5, (e 7 k6.symm).trans h6, fun i => by rw [e 6 k7.symm]; exact h7 i⟩
theorem Keep.sc {M M1 : MS} (h : Keep M M1) {k : Nat} {x : Int32} (hk : k ≠ 15 ∧ k ≠ 16 ∧ k ≠ 17 ∧ k ≠ 18 ∧ k ≠ 5 ∧ k ≠ 7 ∧ k ≠ 6) : Keep M (scM M1 k x) := by
  have e : ∀ j, j ≠ k → scM M1 k x j = M1 j := fun j hj => by simp [scM, va_up, hj]
  obtain ⟨h1, h2, h3, h4, h5, h6, h7⟩ := h
  obtain ⟨k1, k2, k3, k4, k5, k6, k7⟩ := hk
  exact ⟨(e 15 k1.symm).trans h1, (e 16 k2.symm).trans h2, (e 17 k3.symm).trans h3, (e 18 k4.symm).trans h4, (e 5 k5.symm).trans h5, (e 7 k6.symm).trans h6, fun i => by rw [e 6 k7.symm]; exact h7 i⟩
theorem Keep.free {M M1 : MS} (h : Keep M M1) {i : Nat} : Keep M (stM M1 6 i (-1)) := by
  have e : ∀ j, j ≠ 6 → stM M1 6 i (-1) j = M1 j := fun j hj => by simp [stM, va_up, hj]
  obtain ⟨h1, h2, h3, h4, h5, h6, h7⟩ := h
  refine ⟨(e 15 (by decide)).trans h1, (e 16 (by decide)).trans h2, (e 17 (by decide)).trans h3, (e 18 (by decide)).trans h4, (e 5 (by decide)).trans h5, (e 7 (by decide)).trans h6, fun j => ?_⟩
  by_cases hj : j = i
  · right; simp [stM, va_up, upd, hj]
  · rw [show stM M1 6 i (-1) 6 j = M1 6 j by simp [stM, va_up, upd, hj]]
    exact h7 j
theorem end_keep {M M1 : MS} (h : Keep M M1) (i : Nat) : Keep M (endF M1 i) := by
  unfold endF
  split
  · exact (h.free).st (by decide)
  · exact (((h.free).st (by decide)).st (by decide)).st (by decide)
theorem turn_keep {M M1 : MS} (h : Keep M M1) (i : Nat) : Keep M (turnF M1 i) := (h.st (by decide)).st (by decide)
theorem cast_keep {M M1 : MS} (h : Keep M M1) (i : Nat) : Keep M (castF M1 i) := by
  unfold castF
  split
  · exact end_keep h i
  · exact (h.st (by decide)).st (by decide)
theorem fill_keep {M M1 : MS} (h : Keep M M1) (i j : Nat) (x : Int32) : Keep M (fillF M1 i j x) := ((h.st (by decide)).st (by decide)).st (by decide)
theorem atHulk_keep {M M1 : MS} (h : Keep M M1) (i : Nat) : Keep M (atHulkF M1 i) := by
  unfold atHulkF
  split
  · exact cast_keep h i
  · split
    · exact cast_keep h i
    · exact fill_keep h _ _ _
theorem atSteamer_keep {M M1 : MS} (h : Keep M M1) (i : Nat) : Keep M (atSteamerF M1 i) := by
  unfold atSteamerF
  split
  · exact turn_keep h i
  · split
    · exact (((h.st (by decide)).st (by decide)).st (by decide)).sc (by decide)
    · exact h
theorem goOn_keep {M M1 : MS} (h : Keep M M1) (i : Nat) : Keep M (goOnF M1 i) := by
  have h2 : Keep M (stM M1 8 i (M1 8 i - 1)) := h.st (by decide)
  unfold goOnF goF
  split
  · split
    · exact h2.st (by decide)
    · exact end_keep h2 i
  · exact h2
theorem work_keep {M M1 : MS} (h : Keep M M1) (i : Nat) : Keep M (workF M1 i) := by
  have h2 : Keep M (stM M1 10 (nT (M1 6 i)) (M1 10 (nT (M1 6 i)) + 1)) := h.st (by decide)
  unfold workF placeF
  split
  · exact atHulk_keep h2 i
  · split
    · exact atSteamer_keep h2 i
    · exact goOn_keep h2 i
theorem leaveStep_keep {M M1 : MS} (h : Keep M M1) (s i : Nat) : Keep M (leaveStep M1 s i) := by
  unfold leaveStep
  split
  · exact h
  · split
    · split
      · exact end_keep h i
      · split
        · exact h
        · exact turn_keep h i
    · exact h
theorem leaveLoop_keep {M M1 : MS} (h : Keep M M1) (s : Nat) : ∀ n, Keep M (leaveLoop M1 s n)
  | 0 => h
  | n + 1 => leaveStep_keep (leaveLoop_keep h s n) s n
theorem leave_keep {M M1 : MS} (h : Keep M M1) (s nl : Nat) : Keep M (leaveF M1 s nl) := leaveLoop_keep (h.st (by decide)) s nl
theorem rest_keep {M M1 : MS} (h : Keep M M1) : ∀ n, Keep M (restLoop M1 n)
  | 0 => h
  | n + 1 => (rest_keep h n).st (by decide)
theorem buoy_keep {M M1 : MS} (h : Keep M M1) (ns : Nat) : ∀ n, Keep M (buoyLoop M1 ns n)
  | 0 => h
  | n + 1 => (buoy_keep h ns n).st (by decide)
theorem workLoop_keep {M M1 : MS} (h : Keep M M1) : ∀ n, Keep M (workLoop M1 n)
  | 0 => h
  | n + 1 => by
    unfold workLoop
    split
    · exact workLoop_keep h n
    · exact work_keep (workLoop_keep h n) n
theorem gone_keep {M M1 : MS} (h : Keep M M1) (nl : Nat) : ∀ n, Keep M (goneLoop M1 nl n).1
  | 0 => h
  | n + 1 => by
    unfold goneLoop goneStep
    split
    · exact gone_keep h nl n
    · split
      · exact leave_keep (gone_keep h nl n) _ _
      · split
        · exact leave_keep (gone_keep h nl n) _ _
        · exact gone_keep h nl n
theorem hour_keep {M M1 : MS} (h : Keep M M1) (nl ng ns : Nat) : Keep M (hourF M1 nl ng ns).1 := gone_keep ((workLoop_keep (buoy_keep (rest_keep h ng) ns ns) nl).sc (by decide)) nl ns
theorem hours_keep {M M1 : MS} (h : Keep M M1) (nl ng ns : Nat) : ∀ n, Keep M (hoursLoop M1 nl ng ns n).1
  | 0 => h
  | n + 1 => hour_keep (hours_keep h nl ng ns n) nl ng ns
def orderT (M : MS) (nl : Nat) (v w u : Int32) : Int32 := if isF v (M 16 0) = 0 then 1 else if isF w (M 17 0) = 0 then 1 else if isF u (M 18 0) = 0 then 1 else if M 6 (nT v) = -1 then (if busyF M (nT w) nl = 0 then (if M 14 (nT u) ≤ 1 then 0 else 2) else 2) else 2
def orderF (M : MS) (nl : Nat) (v w u : Int32) : MS := if orderT M nl v w u = 0 then stM (stM (scM M 21 0) 6 (nT v) w) 7 (nT v) u else scM M 21 (orderT M nl v w u)
def shiftT (M : MS) (v w : Int32) : Int32 := if isF v (M 16 0) = 0 then 1 else if isF w (M 15 0) = 0 then 1 else if M 6 (nT v) = -1 then 0 else 2
def shiftF (M : MS) (v w : Int32) : MS := if shiftT M v w = 0 then stM (scM M 21 0) 5 (nT v) w else scM M 21 (shiftT M v w)
def sweepT (M : MS) (nl : Nat) (v w : Int32) : Int32 := if isF v (M 16 0) = 0 then 1 else if isF w (M 17 0) = 0 then 1 else if M 6 (nT v) = -1 then (if busyF M (nT w) nl = 0 then 0 else 2) else 2
def sweepF (M : MS) (nl : Nat) (v w : Int32) : MS := if sweepT M nl v w = 0 then stM (stM (stM (stM (scM M 21 0) 0 (nT (M 5 (nT v))) (M 0 (nT (M 5 (nT v))) + M 3 (nT v))) 3 (nT v) 0) 11 (nT w) 8) 10 (nT w) 0 else scM M 21 (sweepT M nl v w)
def toldF (M : MS) (x y : Int32) : MS := scM M 21 (if isF x y = 0 then 1 else 0)
def outGo (M : MS) : Nat → Nat → Int32 → Int32
  | 0, _, _ => -1
  | n + 1, i, left => if M 14 i = 0 then (if left = 0 then nI i else outGo M n (i + 1) (left - 1)) else outGo M n (i + 1) (left - 0)
def outT (v : Int32) : Int32 := if 0 ≤ v then 0 else 1
def hoursT (v : Int32) : Int32 := if v < 1 then 1 else if v ≤ 500 then 0 else 1
def hoursF (M : MS) (nl ng ns : Nat) (v : Int32) : MS × Int32 := if hoursT v = 0 then hoursLoop (scM M 21 0) nl ng ns (nT v) else (scM M 21 1, 0)
theorem busy_01 (M : MS) (g : Nat) : ∀ n, busyF M g n = 0 ∨ busyF M g n = 1
  | 0 => by
    unfold busyF
    split
    · exact Or.inl rfl
    · exact Or.inr rfl
  | n + 1 => by
    unfold busyF
    split
    · split
      · exact Or.inr rfl
      · exact Or.inl rfl
    · exact Or.inr rfl
theorem busy_nar {M : MS} {g n : Nat} {x : Int32} (h : x = busyF M g n) : narrow .boolean (.int x) = .int x := by
  rw [h]
  rcases busy_01 M g n with e | e <;> rw [e] <;> rfl
theorem is_ix {x : Int32} {y : Int32} {n : Nat} (hy : y = nI n) (hn : n < 2 ^ 31) (h : ¬ isF x y = 0) : x = nI (nT x) ∧ nT x < n := by
  subst hy
  unfold isF at h
  split at h
  · exact absurd rfl h
  · rename_i h1
    split at h
    · exact absurd rfl h
    · rename_i h2
      obtain ⟨j, hj, rfl⟩ := nI_of h1
      have e : nT (nI j) = j := nI_clamp hj
      refine ⟨by rw [e], ?_⟩
      rw [e]
      rcases Nat.lt_or_ge j n with q | q
      · exact q
      · exact absurd (nI_le q hj) h2
/-- a lighter with an order: her gang, her steamer, her home in range -/
abbrev LW (M : MS) (i : Nat) : Prop := (M 6 i = nI (nT (M 6 i)) ∧ nT (M 6 i) < 6) ∧ (M 7 i = nI (nT (M 7 i)) ∧ nT (M 7 i) < 600) ∧ (M 5 i = nI (nT (M 5 i)) ∧ nT (M 5 i) < 3)
/-- counts and places in range -/
def wfM (M : MS) (nh nl ng ns : Nat) : Prop := (M 15 0 = nI nh ∧ M 16 0 = nI nl ∧ M 17 0 = nI ng ∧ M 18 0 = nI ns) ∧ (nh ≤ 3 ∧ nl ≤ 6 ∧ ng ≤ 6 ∧ ns ≤ 600) ∧ (∀ i, M 5 i = nI (nT (M 5 i)) ∧ nT (M 5 i) < 3) ∧ ∀ i, i < nl → M 6 i = -1 ∨ (M 6 i = nI (nT (M 6 i)) ∧ nT (M 6 i) < 6) ∧ M 7 i = nI (nT (M 7 i)) ∧ nT (M 7 i) < 600
theorem wfM.keep {M M1 : MS} {nh nl ng ns : Nat} (h : wfM M nh nl ng ns) (k : Keep M M1) : wfM M1 nh nl ng ns := by
  obtain ⟨⟨h1, h2, h3, h4⟩, h5, h6, h7⟩ := h
  obtain ⟨k1, k2, k3, k4, k5, k6, k7⟩ := k
  refine ⟨⟨by rw [k1]; exact h1, by rw [k2]; exact h2, by rw [k3]; exact h3, by rw [k4]; exact h4⟩, h5, fun i => by rw [k5]; exact h6 i, fun i hi => ?_⟩
  rcases k7 i with e | e
  · rw [e, k6]; exact h7 i hi
  · exact Or.inl e
theorem wfM.lw {M : MS} {nh nl ng ns i : Nat} (h : wfM M nh nl ng ns) (hi : i < nl) (hc : ¬ M 6 i = -1) : LW M i := by
  rcases h.2.2.2 i hi with e | e
  · exact absurd e hc
  · exact ⟨e.1, e.2, h.2.2.1 i⟩
end
section
set_option maxRecDepth 100000 in
set_option maxHeartbeats 4000000 in
theorem c_is {l : Launch} {κ : Kx} {L : List Nat} {f : Nat → va_E} {x y : Int32} : PM l κ yX6_is wsX6_is ({ frames := 0, cells := 0, slots := 0, locals := 0 } : Room) [.int x, .int y] L f (fun v L1 f1 => v = some (.int (isF x y)) ∧ L = L1 ∧ f = f1) noX 0 0 := by
  refine PM.mk (cc := cX6_is) (maxL := 2) (ret := (some .boolean)) (by decide) rfl (Nat.le_of_ble_eq_true rfl) ?_
  intro p e s m args below meth c ls hx hb hml hr hlk hnm hown hts ht hh hl
  have hl : lv_has ls 2 [(0, .int x), (1, .int y)] := hl
  have S : CallFix p m c cX6_is 2 s args wsX6_is RX6 := ⟨hx, hb, hml, hown, hts⟩
  refine lv_iload_n hx hb dX6_is_0 rfl (lv_at hl 0 rfl) ?_
  refine lv_if_lt (tgt := 13) hx hb dX6_is_1 (by decide) (fun c1 => ?_) (fun c1 => ?_)
  · refine lv_iconst (v := 0) hx hb dX6_is_13 (by decide) ?_
    exact k_zret hx hb hr hlk (rfl) hh dX6_is_14 (Nat.le_of_ble_eq_true rfl) (Nat.le_of_ble_eq_true rfl) ⟨congrArg (fun r => some (Value.int r)) (by unfold isF; (repeat' split); all_goals first | rfl | contradiction), rfl, rfl⟩
  · refine lv_iload_n hx hb dX6_is_4 rfl (lv_at hl 0 rfl) ?_
    refine lv_iload_n hx hb dX6_is_5 rfl (lv_at hl 1 rfl) ?_
    refine lv_icmp_ge (tgt := 13) hx hb dX6_is_6 (by decide) (fun c6 => ?_) (fun c6 => ?_)
    · refine lv_iconst (v := 0) hx hb dX6_is_13 (by decide) ?_
      exact k_zret hx hb hr hlk (rfl) hh dX6_is_14 (Nat.le_of_ble_eq_true rfl) (Nat.le_of_ble_eq_true rfl) ⟨congrArg (fun r => some (Value.int r)) (by unfold isF; (repeat' split); all_goals first | rfl | contradiction), rfl, rfl⟩
    · refine lv_iconst (v := 1) hx hb dX6_is_9 (by decide) ?_
      refine lv_goto (tgt := 14) hx hb dX6_is_10 (by decide) ?_
      exact k_zret hx hb hr hlk (rfl) hh dX6_is_14 (Nat.le_of_ble_eq_true rfl) (Nat.le_of_ble_eq_true rfl) ⟨congrArg (fun r => some (Value.int r)) (by unfold isF; (repeat' split); all_goals first | rfl | contradiction), rfl, rfl⟩

set_option maxRecDepth 100000 in
set_option maxHeartbeats 4000000 in
theorem c_least {l : Launch} {κ : Kx} {L : List Nat} {f : Nat → va_E} {x y : Int32} : PM l κ yX6_least wsX6_least ({ frames := 0, cells := 0, slots := 0, locals := 0 } : Room) [.int x, .int y] L f (fun v L1 f1 => v = some (.int (leastF x y)) ∧ L = L1 ∧ f = f1) noX 0 0 := by
  refine PM.mk (cc := cX6_least) (maxL := 2) (ret := (some .int)) (by decide) rfl (Nat.le_of_ble_eq_true rfl) ?_
  intro p e s m args below meth c ls hx hb hml hr hlk hnm hown hts ht hh hl
  have hl : lv_has ls 2 [(0, .int x), (1, .int y)] := hl
  have S : CallFix p m c cX6_least 2 s args wsX6_least RX6 := ⟨hx, hb, hml, hown, hts⟩
  refine lv_iload_n hx hb dX6_least_0 rfl (lv_at hl 0 rfl) ?_
  refine lv_iload_n hx hb dX6_least_1 rfl (lv_at hl 1 rfl) ?_
  refine lv_icmp_ge (tgt := 9) hx hb dX6_least_2 (by decide) (fun c2 => ?_) (fun c2 => ?_)
  · refine lv_iload_n hx hb dX6_least_9 rfl (lv_at hl 1 rfl) ?_
    exact k_iret hx hb hr hlk hh dX6_least_10 (Nat.le_of_ble_eq_true rfl) (Nat.le_of_ble_eq_true rfl) ⟨congrArg (fun r => some (Value.int r)) (by unfold leastF; (repeat' split); all_goals first | rfl | contradiction), rfl, rfl⟩
  · refine lv_iload_n hx hb dX6_least_5 rfl (lv_at hl 0 rfl) ?_
    refine lv_goto (tgt := 10) hx hb dX6_least_6 (by decide) ?_
    exact k_iret hx hb hr hlk hh dX6_least_10 (Nat.le_of_ble_eq_true rfl) (Nat.le_of_ble_eq_true rfl) ⟨congrArg (fun r => some (Value.int r)) (by unfold leastF; (repeat' split); all_goals first | rfl | contradiction), rfl, rfl⟩

set_option maxRecDepth 100000 in
set_option maxHeartbeats 4000000 in
theorem c_thrown {l : Launch} {κ : Kx} {xm : Nat} {b : Nat → Nat} {M : MS} {L : List Nat} {f0 f : Nat → va_E} (hz : ZR κ xm b M L f0 f) : PM l κ yX6_thrown wsX6_thrown ({ frames := 0, cells := 0, slots := 0, locals := 0 } : Room) [.ref xm] L f (fun v L1 f1 => v = some (.int (M 21 0)) ∧ L = L1 ∧ f = f1) noX 0 0 := by
  refine PM.mk (cc := cX6_thrown) (maxL := 1) (ret := (some .int)) (by decide) rfl (Nat.le_of_ble_eq_true rfl) ?_
  intro p e s m args below meth c ls hx hb hml hr hlk hnm hown hts ht hh hl
  have hl : lv_has ls 1 [(0, .ref xm)] := hl
  have S : CallFix p m c cX6_thrown 1 s args wsX6_thrown RX6 := ⟨hx, hb, hml, hown, hts⟩
  have hin : ∀ w ∈ wsX60, w ∈ wsX6_thrown := by decide +kernel
  refine lv_aload_n hx hb dX6_thrown_0 rfl (lv_at hl 0 rfl) ?_
  refine r_get S hh hz hin 21 (by decide) rfl rfl (by decide +kernel) dX6_thrown_1 ?_
  exact k_iret hx hb hr hlk hh dX6_thrown_4 (Nat.le_of_ble_eq_true rfl) (Nat.le_of_ble_eq_true rfl) ⟨rfl, rfl, rfl⟩

set_option maxRecDepth 100000 in
set_option maxHeartbeats 4000000 in
theorem c_clock {l : Launch} {κ : Kx} {xm : Nat} {b : Nat → Nat} {M : MS} {L : List Nat} {f0 f : Nat → va_E} (hz : ZR κ xm b M L f0 f) : PM l κ yX6_clock wsX6_clock ({ frames := 0, cells := 0, slots := 0, locals := 0 } : Room) [.ref xm] L f (fun v L1 f1 => v = some (.int (M 19 0)) ∧ L = L1 ∧ ZR κ xm b (scM M 21 0) L f f1) noX 0 0 := by
  refine PM.mk (cc := cX6_clock) (maxL := 1) (ret := (some .int)) (by decide) rfl (Nat.le_of_ble_eq_true rfl) ?_
  intro p e s m args below meth c ls hx hb hml hr hlk hnm hown hts ht hh hl
  have hl : lv_has ls 1 [(0, .ref xm)] := hl
  have S : CallFix p m c cX6_clock 1 s args wsX6_clock RX6 := ⟨hx, hb, hml, hown, hts⟩
  have hin : ∀ w ∈ wsX60, w ∈ wsX6_clock := by decide +kernel
  have hz := hz.self
  refine lv_aload_n hx hb dX6_clock_0 rfl (lv_at hl 0 rfl) ?_
  refine lv_iconst (v := 0) hx hb dX6_clock_1 (by decide) ?_
  refine r_put S hh hz hin 21 (by decide) rfl rfl rfl (by decide +kernel) dX6_clock_2 (fun f9 H locs hh hz => ?_)
  refine lv_aload_n hx hb dX6_clock_5 rfl (lv_at hl 0 rfl) ?_
  refine r_get S hh hz hin 19 (by decide) rfl rfl (by decide +kernel) dX6_clock_6 ?_
  exact k_iret hx hb hr hlk hh dX6_clock_9 (Nat.le_of_ble_eq_true rfl) (Nat.le_of_ble_eq_true rfl) ⟨rfl, rfl, hz⟩

set_option maxRecDepth 100000 in
set_option maxHeartbeats 4000000 in
theorem c_delivered {l : Launch} {κ : Kx} {xm : Nat} {b : Nat → Nat} {M : MS} {L : List Nat} {f0 f : Nat → va_E} (hz : ZR κ xm b M L f0 f) : PM l κ yX6_delivered wsX6_delivered ({ frames := 0, cells := 0, slots := 0, locals := 0 } : Room) [.ref xm] L f (fun v L1 f1 => v = some (.int (M 20 0)) ∧ L = L1 ∧ ZR κ xm b (scM M 21 0) L f f1) noX 0 0 := by
  refine PM.mk (cc := cX6_delivered) (maxL := 1) (ret := (some .int)) (by decide) rfl (Nat.le_of_ble_eq_true rfl) ?_
  intro p e s m args below meth c ls hx hb hml hr hlk hnm hown hts ht hh hl
  have hl : lv_has ls 1 [(0, .ref xm)] := hl
  have S : CallFix p m c cX6_delivered 1 s args wsX6_delivered RX6 := ⟨hx, hb, hml, hown, hts⟩
  have hin : ∀ w ∈ wsX60, w ∈ wsX6_delivered := by decide +kernel
  have hz := hz.self
  refine lv_aload_n hx hb dX6_delivered_0 rfl (lv_at hl 0 rfl) ?_
  refine lv_iconst (v := 0) hx hb dX6_delivered_1 (by decide) ?_
  refine r_put S hh hz hin 21 (by decide) rfl rfl rfl (by decide +kernel) dX6_delivered_2 (fun f9 H locs hh hz => ?_)
  refine lv_aload_n hx hb dX6_delivered_5 rfl (lv_at hl 0 rfl) ?_
  refine r_get S hh hz hin 20 (by decide) rfl rfl (by decide +kernel) dX6_delivered_6 ?_
  exact k_iret hx hb hr hlk hh dX6_delivered_9 (Nat.le_of_ble_eq_true rfl) (Nat.le_of_ble_eq_true rfl) ⟨rfl, rfl, hz⟩

set_option maxRecDepth 100000 in
set_option maxHeartbeats 4000000 in
theorem c_many {l : Launch} {κ : Kx} {xm : Nat} {b : Nat → Nat} {M : MS} {L : List Nat} {f0 f : Nat → va_E} (hz : ZR κ xm b M L f0 f) {how : Int32} {ns : Nat} (hn : M 18 0 = nI ns) (hns : ns ≤ 600) : PM l κ yX6_many wsX6_many ({ frames := 0, cells := 0, slots := 0, locals := 0 } : Room) [.ref xm, .int how] L f (fun v L1 f1 => v = some (.int (manyF M how ns)) ∧ L = L1 ∧ f = f1) noX 0 0 := by
  refine PM.mk (cc := cX6_many) (maxL := 4) (ret := (some .int)) (by decide) rfl (Nat.le_of_ble_eq_true rfl) ?_
  intro p e s m args below meth c ls hx hb hml hr hlk hnm hown hts ht hh hl
  have hl : lv_has ls 4 [(0, .ref xm), (1, .int how)] := hl
  have S : CallFix p m c cX6_many 4 s args wsX6_many RX6 := ⟨hx, hb, hml, hown, hts⟩
  have hin : ∀ w ∈ wsX60, w ∈ wsX6_many := by decide +kernel
  refine lv_iconst (v := 0) hx hb dX6_many_0 (by decide) ?_
  refine lv_istore_n (lv' := [(2, .int 0), (0, .ref xm), (1, .int how)]) hx hb dX6_many_1 rfl hl (by decide) rfl (fun ls hl => ?_)
  refine lv_iconst (v := 0) hx hb dX6_many_2 (by decide) ?_
  refine lv_istore_n (lv' := [(3, .int 0), (2, .int 0), (0, .ref xm), (1, .int how)]) hx hb dX6_many_3 rfl hl (by decide) rfl (fun ls hl => ?_)
  have loop : ∀ (n i : Nat) (x2 x3 : Int32), i ≤ ns → ns + 1 ≤ i + n → x3 = nI i → x2 = manyF M how i → ∀ ls : Array Slot, lv_has ls 4 [(0, .ref xm), (1, .int how), (2, .int x2), (3, .int x3)] → W p l e ({ frames := 0, cells := 0, slots := 0, locals := 0 } : Room) s m args below meth c s.heap [] 0 0 (vx_MQ below (PQ κ (fun v L1 f1 => v = some (.int (manyF M how ns)) ∧ L = L1 ∧ f = f1)) (PX κ L f noX) args s 0 0 (kA κ)) (F0 m 4 ls []) := by
    intro n
    induction n with
    | zero =>
      intro i x2 x3 h1 h2
      exact absurd h2 (by omega)
    | succ n ih =>
      intro i x2 x3 hi hin3 ex3 ex2 ls hl
      refine lv_iload_n hx hb dX6_many_4 rfl (lv_at hl 3 rfl) ?_
      refine lv_aload_n hx hb dX6_many_5 rfl (lv_at hl 0 rfl) ?_
      refine r_get S hh hz hin 18 (by decide) rfl rfl (by decide +kernel) dX6_many_6 ?_
      refine lv_icmp_ge (tgt := 36) hx hb dX6_many_9 (by decide) (fun c9 => ?_) (fun c9 => ?_)
      · have hie : i = ns := by
          rcases Nat.lt_or_ge i ns with q | q
          · exact absurd c9 (by rw [hn, ex3]; exact nI_ge q (by omega))
          · omega
        refine lv_iload_n hx hb dX6_many_36 rfl (lv_at hl 2 rfl) ?_
        exact k_iret hx hb hr hlk hh dX6_many_37 (Nat.le_of_ble_eq_true rfl) (Nat.le_of_ble_eq_true rfl) ⟨congrArg (fun r => some (Value.int r)) (by rw [ex2, hie]), rfl, rfl⟩
      · have hlt : i < ns := by
          rcases Nat.lt_or_ge i ns with q | q
          · exact q
          · exact absurd (by rw [hn, ex3]; exact nI_le q (by omega)) c9
        refine lv_iload_n hx hb dX6_many_12 rfl (lv_at hl 2 rfl) ?_
        refine lv_aload_n hx hb dX6_many_13 rfl (lv_at hl 0 rfl) ?_
        refine r_get S hh hz hin 14 (by decide) rfl rfl (by decide +kernel) dX6_many_14 ?_
        refine lv_iload_n hx hb dX6_many_17 rfl (lv_at hl 3 rfl) ?_
        refine r_ald (k := 14) (i := i) S hh hz (by decide) ex3 (show i < 600 by omega) dX6_many_18 ?_
        refine lv_iload_n hx hb dX6_many_19 rfl (lv_at hl 1 rfl) ?_
        refine lv_icmp_ne (tgt := 27) hx hb dX6_many_20 (by decide) (fun c20 => ?_) (fun c20 => ?_)
        · refine lv_iconst (v := 0) hx hb dX6_many_27 (by decide) ?_
          refine lv_iadd hx hb dX6_many_28 ?_
          refine lv_topi (fun x29 e29 => ?_)
          refine lv_istore_n (lv' := [(2, .int x29), (0, .ref xm), (1, .int how), (3, .int x3)]) hx hb dX6_many_29 rfl hl (by decide) rfl (fun ls hl => ?_)
          obtain ⟨x30, e30⟩ : ∃ y : Int32, y = x3 + 1 := ⟨_, rfl⟩
          refine lv_iinc (v := x30) (lv' := [(3, .int x30), (2, .int x29), (0, .ref xm), (1, .int how)]) hx hb dX6_many_30 hl (k := 3) rfl (by rw [e30]; rfl) (by decide) rfl (fun ls hl => ?_)
          refine lv_goto (tgt := 4) hx hb dX6_many_33 (by decide) ?_
          exact ih (i + 1) x29 x30 (by omega) (by omega) (by rw [e30, ex3]; exact nI_1 i) (by rw [e29, ex2]; simp only [manyF]; first | rw [if_pos (by assumption)] | rw [if_neg (by assumption)]) ls (lv_sub hl [2, 3, 1, 0] rfl)
        · refine lv_iconst (v := 1) hx hb dX6_many_23 (by decide) ?_
          refine lv_goto (tgt := 28) hx hb dX6_many_24 (by decide) ?_
          refine lv_iadd hx hb dX6_many_28 ?_
          refine lv_topi (fun x29 e29 => ?_)
          refine lv_istore_n (lv' := [(2, .int x29), (0, .ref xm), (1, .int how), (3, .int x3)]) hx hb dX6_many_29 rfl hl (by decide) rfl (fun ls hl => ?_)
          obtain ⟨x30, e30⟩ : ∃ y : Int32, y = x3 + 1 := ⟨_, rfl⟩
          refine lv_iinc (v := x30) (lv' := [(3, .int x30), (2, .int x29), (0, .ref xm), (1, .int how)]) hx hb dX6_many_30 hl (k := 3) rfl (by rw [e30]; rfl) (by decide) rfl (fun ls hl => ?_)
          refine lv_goto (tgt := 4) hx hb dX6_many_33 (by decide) ?_
          exact ih (i + 1) x29 x30 (by omega) (by omega) (by rw [e30, ex3]; exact nI_1 i) (by rw [e29, ex2]; simp only [manyF]; first | rw [if_pos (by assumption)] | rw [if_neg (by assumption)]) ls (lv_sub hl [2, 3, 1, 0] rfl)
  exact loop (ns + 1) 0 0 0 (Nat.zero_le _) (by omega) rfl rfl ls (lv_sub hl [2, 3, 1, 0] rfl)
end
section
theorem ix_of {x : Int32} {n : Nat} (h : x = nI n) (hn : n < 2 ^ 31) : x = nI (nT x) ∧ nT x = n := by
  have e : nT (nI n) = n := nI_clamp hn
  rw [h]
  exact ⟨by rw [e], e⟩

set_option maxRecDepth 100000 in
set_option maxHeartbeats 4000000 in
theorem c_hulk {l : Launch} {κ : Kx} {xm : Nat} {b : Nat → Nat} {M : MS} {L : List Nat} {f0 f : Nat → va_E} (hz : ZR κ xm b M L f0 f) {x : Int32} {nh : Nat} (hn : M 15 0 = nI nh) (hnh : nh ≤ 3) : PM l κ yX6_hulk wsX6_hulk ({ frames := 0, cells := 0, slots := 0, locals := 0 } : Room) [.ref xm, .int x] L f (fun v L1 f1 => v = some (.int (if hulkT M x = 0 then M 15 0 else 0)) ∧ L = L1 ∧ ZR κ xm b (hulkF M x) L f f1) noX 0 0 := by
  refine PM.mk (cc := cX6_hulk) (maxL := 2) (ret := (some .int)) (by decide) rfl (Nat.le_of_ble_eq_true rfl) ?_
  intro p e s m args below meth c ls hx hb hml hr hlk hnm hown hts ht hh hl
  have hl : lv_has ls 2 [(0, .ref xm), (1, .int x)] := hl
  have S : CallFix p m c cX6_hulk 2 s args wsX6_hulk RX6 := ⟨hx, hb, hml, hown, hts⟩
  have hin : ∀ w ∈ wsX60, w ∈ wsX6_hulk := by decide +kernel
  have hz := hz.self
  refine lv_aload_n hx hb dX6_hulk_0 rfl (lv_at hl 0 rfl) ?_
  refine lv_iload_n hx hb dX6_hulk_1 rfl (lv_at hl 1 rfl) ?_
  refine lv_if_lt (tgt := 12) hx hb dX6_hulk_2 (by decide) (fun c2 => ?_) (fun c2 => ?_)
  · refine lv_iconst (v := 1) hx hb dX6_hulk_12 (by decide) ?_
    refine lv_goto (tgt := 29) hx hb dX6_hulk_13 (by decide) ?_
    refine r_put S hh hz hin 21 (by decide) rfl rfl rfl (by decide +kernel) dX6_hulk_29 (fun f9 H locs hh hz => ?_)
    refine lv_aload_n hx hb dX6_hulk_32 rfl (lv_at hl 0 rfl) ?_
    refine r_get S hh hz hin 21 (by decide) rfl rfl (by decide +kernel) dX6_hulk_33 ?_
    refine lv_if_eq (tgt := 41) hx hb dX6_hulk_36 (by decide) (fun c => absurd (show (1 : Int32) = (0 : Int32) from c) (by decide)) (fun _ => ?_)
    refine lv_iconst (v := 0) hx hb dX6_hulk_39 (by decide) ?_
    exact k_iret hx hb hr hlk hh dX6_hulk_40 (Nat.le_of_ble_eq_true rfl) (Nat.le_of_ble_eq_true rfl) (by
  have hT : hulkT M x = 1 := by (unfold hulkT; (repeat' split); all_goals first | rfl | contradiction)
  exact ⟨congrArg (fun r => some (Value.int r)) (by rw [if_neg (by rw [hT]; decide)]; try rfl), rfl, hz.cast (by unfold hulkF; rw [if_neg (by rw [hT]; decide)]; rw [hT]; try rfl)⟩)
  · refine lv_iload_n hx hb dX6_hulk_5 rfl (lv_at hl 1 rfl) ?_
    refine lv_sipush (v := 20000) hx hb dX6_hulk_6 (by decide) ?_
    refine lv_icmp_le (tgt := 16) hx hb dX6_hulk_9 (by decide) (fun c9 => ?_) (fun c9 => ?_)
    · refine lv_aload_n hx hb dX6_hulk_16 rfl (lv_at hl 0 rfl) ?_
      refine r_get S hh hz hin 15 (by decide) rfl rfl (by decide +kernel) dX6_hulk_17 ?_
      refine lv_iconst (v := 3) hx hb dX6_hulk_20 (by decide) ?_
      refine lv_icmp_ne (tgt := 28) hx hb dX6_hulk_21 (by decide) (fun c21 => ?_) (fun c21 => ?_)
      · have hne : nh ≠ 3 := fun q => c21 (by rw [hn, q]; rfl)
        obtain ⟨hix, hie9⟩ := ix_of hn (by omega)
        have hlt : nT (M 15 0) < 3 := by omega
        refine lv_iconst (v := 0) hx hb dX6_hulk_28 (by decide) ?_
        refine r_put S hh hz hin 21 (by decide) rfl rfl rfl (by decide +kernel) dX6_hulk_29 (fun f9 H locs hh hz => ?_)
        refine lv_aload_n hx hb dX6_hulk_32 rfl (lv_at hl 0 rfl) ?_
        refine r_get S hh hz hin 21 (by decide) rfl rfl (by decide +kernel) dX6_hulk_33 ?_
        refine lv_if_eq (tgt := 41) hx hb dX6_hulk_36 (by decide) (fun _ => ?_) (fun c => absurd (show ¬ (0 : Int32) = (0 : Int32) from c) (by decide))
        refine lv_aload_n hx hb dX6_hulk_41 rfl (lv_at hl 0 rfl) ?_
        refine r_get S hh hz hin 0 (by decide) rfl rfl (by decide +kernel) dX6_hulk_42 ?_
        refine lv_aload_n hx hb dX6_hulk_45 rfl (lv_at hl 0 rfl) ?_
        refine r_get S hh hz hin 15 (by decide) rfl rfl (by decide +kernel) dX6_hulk_46 ?_
        refine lv_iload_n hx hb dX6_hulk_49 rfl (lv_at hl 1 rfl) ?_
        refine r_ast (k := 0) (i := (nT (M 15 0))) S hh hz (by decide) hix hlt dX6_hulk_50 (fun f9 H locs hh hz => ?_)
        refine lv_aload_n hx hb dX6_hulk_51 rfl (lv_at hl 0 rfl) ?_
        refine lv_dup hx hb dX6_hulk_52 rfl ?_
        refine r_get S hh hz hin 15 (by decide) rfl rfl (by decide +kernel) dX6_hulk_53 ?_
        refine lv_iconst (v := 1) hx hb dX6_hulk_56 (by decide) ?_
        refine lv_iadd hx hb dX6_hulk_57 ?_
        refine r_put S hh hz hin 15 (by decide) rfl rfl rfl (by decide +kernel) dX6_hulk_58 (fun f9 H locs hh hz => ?_)
        refine lv_aload_n hx hb dX6_hulk_61 rfl (lv_at hl 0 rfl) ?_
        refine r_get S hh hz hin 15 (by decide) rfl rfl (by decide +kernel) dX6_hulk_62 ?_
        refine lv_iconst (v := 1) hx hb dX6_hulk_65 (by decide) ?_
        refine lv_isub hx hb dX6_hulk_66 ?_
        exact k_iret hx hb hr hlk hh dX6_hulk_67 (Nat.le_of_ble_eq_true rfl) (Nat.le_of_ble_eq_true rfl) (by
  have hT : hulkT M x = 0 := by (unfold hulkT; (repeat' split); all_goals first | rfl | contradiction)
  exact ⟨congrArg (fun r => some (Value.int r)) (by rw [if_pos hT]; exact Int32.add_sub_cancel _ _), rfl, hz.cast (by unfold hulkF; rw [if_pos hT]; try rfl)⟩)
      · refine lv_iconst (v := 2) hx hb dX6_hulk_24 (by decide) ?_
        refine lv_goto (tgt := 29) hx hb dX6_hulk_25 (by decide) ?_
        refine r_put S hh hz hin 21 (by decide) rfl rfl rfl (by decide +kernel) dX6_hulk_29 (fun f9 H locs hh hz => ?_)
        refine lv_aload_n hx hb dX6_hulk_32 rfl (lv_at hl 0 rfl) ?_
        refine r_get S hh hz hin 21 (by decide) rfl rfl (by decide +kernel) dX6_hulk_33 ?_
        refine lv_if_eq (tgt := 41) hx hb dX6_hulk_36 (by decide) (fun c => absurd (show (2 : Int32) = (0 : Int32) from c) (by decide)) (fun _ => ?_)
        refine lv_iconst (v := 0) hx hb dX6_hulk_39 (by decide) ?_
        exact k_iret hx hb hr hlk hh dX6_hulk_40 (Nat.le_of_ble_eq_true rfl) (Nat.le_of_ble_eq_true rfl) (by
  have hT : hulkT M x = 2 := by (unfold hulkT; (repeat' split); all_goals first | rfl | contradiction)
  exact ⟨congrArg (fun r => some (Value.int r)) (by rw [if_neg (by rw [hT]; decide)]; try rfl), rfl, hz.cast (by unfold hulkF; rw [if_neg (by rw [hT]; decide)]; rw [hT]; try rfl)⟩)
    · refine lv_iconst (v := 1) hx hb dX6_hulk_12 (by decide) ?_
      refine lv_goto (tgt := 29) hx hb dX6_hulk_13 (by decide) ?_
      refine r_put S hh hz hin 21 (by decide) rfl rfl rfl (by decide +kernel) dX6_hulk_29 (fun f9 H locs hh hz => ?_)
      refine lv_aload_n hx hb dX6_hulk_32 rfl (lv_at hl 0 rfl) ?_
      refine r_get S hh hz hin 21 (by decide) rfl rfl (by decide +kernel) dX6_hulk_33 ?_
      refine lv_if_eq (tgt := 41) hx hb dX6_hulk_36 (by decide) (fun c => absurd (show (1 : Int32) = (0 : Int32) from c) (by decide)) (fun _ => ?_)
      refine lv_iconst (v := 0) hx hb dX6_hulk_39 (by decide) ?_
      exact k_iret hx hb hr hlk hh dX6_hulk_40 (Nat.le_of_ble_eq_true rfl) (Nat.le_of_ble_eq_true rfl) (by
  have hT : hulkT M x = 1 := by (unfold hulkT; (repeat' split); all_goals first | rfl | contradiction)
  exact ⟨congrArg (fun r => some (Value.int r)) (by rw [if_neg (by rw [hT]; decide)]; try rfl), rfl, hz.cast (by unfold hulkF; rw [if_neg (by rw [hT]; decide)]; rw [hT]; try rfl)⟩)

set_option maxRecDepth 100000 in
set_option maxHeartbeats 4000000 in
theorem c_lighter {l : Launch} {κ : Kx} {xm : Nat} {b : Nat → Nat} {M : MS} {L : List Nat} {f0 f : Nat → va_E} (hz : ZR κ xm b M L f0 f) {x : Int32} {nl : Nat} (hn : M 16 0 = nI nl) (hnl : nl ≤ 6) : PM l κ yX6_lighter wsX6_lighter ({ frames := 0, cells := 0, slots := 0, locals := 0 } : Room) [.ref xm, .int x] L f (fun v L1 f1 => v = some (.int (if lighterT M x = 0 then M 16 0 else 0)) ∧ L = L1 ∧ ZR κ xm b (lighterF M x) L f f1) noX 0 0 := by
  refine PM.mk (cc := cX6_lighter) (maxL := 2) (ret := (some .int)) (by decide) rfl (Nat.le_of_ble_eq_true rfl) ?_
  intro p e s m args below meth c ls hx hb hml hr hlk hnm hown hts ht hh hl
  have hl : lv_has ls 2 [(0, .ref xm), (1, .int x)] := hl
  have S : CallFix p m c cX6_lighter 2 s args wsX6_lighter RX6 := ⟨hx, hb, hml, hown, hts⟩
  have hin : ∀ w ∈ wsX60, w ∈ wsX6_lighter := by decide +kernel
  have hz := hz.self
  refine lv_aload_n hx hb dX6_lighter_0 rfl (lv_at hl 0 rfl) ?_
  refine lv_iload_n hx hb dX6_lighter_1 rfl (lv_at hl 1 rfl) ?_
  refine lv_bipush (v := 20) hx hb dX6_lighter_2 (by decide) ?_
  refine lv_icmp_lt (tgt := 14) hx hb dX6_lighter_4 (by decide) (fun c4 => ?_) (fun c4 => ?_)
  · refine lv_iconst (v := 1) hx hb dX6_lighter_14 (by decide) ?_
    refine lv_goto (tgt := 39) hx hb dX6_lighter_15 (by decide) ?_
    refine r_put S hh hz hin 21 (by decide) rfl rfl rfl (by decide +kernel) dX6_lighter_39 (fun f9 H locs hh hz => ?_)
    refine lv_aload_n hx hb dX6_lighter_42 rfl (lv_at hl 0 rfl) ?_
    refine r_get S hh hz hin 21 (by decide) rfl rfl (by decide +kernel) dX6_lighter_43 ?_
    refine lv_if_eq (tgt := 51) hx hb dX6_lighter_46 (by decide) (fun c => absurd (show (1 : Int32) = (0 : Int32) from c) (by decide)) (fun _ => ?_)
    refine lv_iconst (v := 0) hx hb dX6_lighter_49 (by decide) ?_
    exact k_iret hx hb hr hlk hh dX6_lighter_50 (Nat.le_of_ble_eq_true rfl) (Nat.le_of_ble_eq_true rfl) (by
  have hT : lighterT M x = 1 := by (unfold lighterT; (repeat' split); all_goals first | rfl | contradiction)
  exact ⟨congrArg (fun r => some (Value.int r)) (by rw [if_neg (by rw [hT]; decide)]; try rfl), rfl, hz.cast (by unfold lighterF; rw [if_neg (by rw [hT]; decide)]; rw [hT]; try rfl)⟩)
  · refine lv_iload_n hx hb dX6_lighter_7 rfl (lv_at hl 1 rfl) ?_
    refine lv_sipush (v := 500) hx hb dX6_lighter_8 (by decide) ?_
    refine lv_icmp_le (tgt := 18) hx hb dX6_lighter_11 (by decide) (fun c11 => ?_) (fun c11 => ?_)
    · refine lv_aload_n hx hb dX6_lighter_18 rfl (lv_at hl 0 rfl) ?_
      refine r_get S hh hz hin 16 (by decide) rfl rfl (by decide +kernel) dX6_lighter_19 ?_
      refine lv_bipush (v := 6) hx hb dX6_lighter_22 (by decide) ?_
      refine lv_icmp_eq (tgt := 34) hx hb dX6_lighter_24 (by decide) (fun c24 => ?_) (fun c24 => ?_)
      · refine lv_iconst (v := 2) hx hb dX6_lighter_34 (by decide) ?_
        refine lv_goto (tgt := 39) hx hb dX6_lighter_35 (by decide) ?_
        refine r_put S hh hz hin 21 (by decide) rfl rfl rfl (by decide +kernel) dX6_lighter_39 (fun f9 H locs hh hz => ?_)
        refine lv_aload_n hx hb dX6_lighter_42 rfl (lv_at hl 0 rfl) ?_
        refine r_get S hh hz hin 21 (by decide) rfl rfl (by decide +kernel) dX6_lighter_43 ?_
        refine lv_if_eq (tgt := 51) hx hb dX6_lighter_46 (by decide) (fun c => absurd (show (2 : Int32) = (0 : Int32) from c) (by decide)) (fun _ => ?_)
        refine lv_iconst (v := 0) hx hb dX6_lighter_49 (by decide) ?_
        exact k_iret hx hb hr hlk hh dX6_lighter_50 (Nat.le_of_ble_eq_true rfl) (Nat.le_of_ble_eq_true rfl) (by
  have hT : lighterT M x = 2 := by (unfold lighterT; (repeat' split); all_goals first | rfl | contradiction)
  exact ⟨congrArg (fun r => some (Value.int r)) (by rw [if_neg (by rw [hT]; decide)]; try rfl), rfl, hz.cast (by unfold lighterF; rw [if_neg (by rw [hT]; decide)]; rw [hT]; try rfl)⟩)
      · have hne : nl ≠ 6 := fun q => c24 (by rw [hn, q]; rfl)
        obtain ⟨hix, hie9⟩ := ix_of hn (by omega)
        have hlt : nT (M 16 0) < 6 := by omega
        refine lv_aload_n hx hb dX6_lighter_27 rfl (lv_at hl 0 rfl) ?_
        refine r_get S hh hz hin 15 (by decide) rfl rfl (by decide +kernel) dX6_lighter_28 ?_
        refine lv_if_ne (tgt := 38) hx hb dX6_lighter_31 (by decide) (fun c31 => ?_) (fun c31 => ?_)
        · refine lv_iconst (v := 0) hx hb dX6_lighter_38 (by decide) ?_
          refine r_put S hh hz hin 21 (by decide) rfl rfl rfl (by decide +kernel) dX6_lighter_39 (fun f9 H locs hh hz => ?_)
          refine lv_aload_n hx hb dX6_lighter_42 rfl (lv_at hl 0 rfl) ?_
          refine r_get S hh hz hin 21 (by decide) rfl rfl (by decide +kernel) dX6_lighter_43 ?_
          refine lv_if_eq (tgt := 51) hx hb dX6_lighter_46 (by decide) (fun _ => ?_) (fun c => absurd (show ¬ (0 : Int32) = (0 : Int32) from c) (by decide))
          refine lv_aload_n hx hb dX6_lighter_51 rfl (lv_at hl 0 rfl) ?_
          refine r_get S hh hz hin 1 (by decide) rfl rfl (by decide +kernel) dX6_lighter_52 ?_
          refine lv_aload_n hx hb dX6_lighter_55 rfl (lv_at hl 0 rfl) ?_
          refine r_get S hh hz hin 16 (by decide) rfl rfl (by decide +kernel) dX6_lighter_56 ?_
          refine lv_iload_n hx hb dX6_lighter_59 rfl (lv_at hl 1 rfl) ?_
          refine r_ast (k := 1) (i := (nT (M 16 0))) S hh hz (by decide) hix hlt dX6_lighter_60 (fun f9 H locs hh hz => ?_)
          refine lv_aload_n hx hb dX6_lighter_61 rfl (lv_at hl 0 rfl) ?_
          refine r_get S hh hz hin 6 (by decide) rfl rfl (by decide +kernel) dX6_lighter_62 ?_
          refine lv_aload_n hx hb dX6_lighter_65 rfl (lv_at hl 0 rfl) ?_
          refine r_get S hh hz hin 16 (by decide) rfl rfl (by decide +kernel) dX6_lighter_66 ?_
          refine lv_iconst (v := (-1)) hx hb dX6_lighter_69 (by decide) ?_
          refine r_ast (k := 6) (i := (nT (M 16 0))) S hh hz (by decide) hix hlt dX6_lighter_70 (fun f9 H locs hh hz => ?_)
          refine lv_aload_n hx hb dX6_lighter_71 rfl (lv_at hl 0 rfl) ?_
          refine lv_dup hx hb dX6_lighter_72 rfl ?_
          refine r_get S hh hz hin 16 (by decide) rfl rfl (by decide +kernel) dX6_lighter_73 ?_
          refine lv_iconst (v := 1) hx hb dX6_lighter_76 (by decide) ?_
          refine lv_iadd hx hb dX6_lighter_77 ?_
          refine r_put S hh hz hin 16 (by decide) rfl rfl rfl (by decide +kernel) dX6_lighter_78 (fun f9 H locs hh hz => ?_)
          refine lv_aload_n hx hb dX6_lighter_81 rfl (lv_at hl 0 rfl) ?_
          refine r_get S hh hz hin 16 (by decide) rfl rfl (by decide +kernel) dX6_lighter_82 ?_
          refine lv_iconst (v := 1) hx hb dX6_lighter_85 (by decide) ?_
          refine lv_isub hx hb dX6_lighter_86 ?_
          exact k_iret hx hb hr hlk hh dX6_lighter_87 (Nat.le_of_ble_eq_true rfl) (Nat.le_of_ble_eq_true rfl) (by
  have hT : lighterT M x = 0 := by (unfold lighterT; (repeat' split); all_goals first | rfl | contradiction)
  exact ⟨congrArg (fun r => some (Value.int r)) (by rw [if_pos hT]; exact Int32.add_sub_cancel _ _), rfl, hz.cast (by unfold lighterF; rw [if_pos hT]; try rfl)⟩)
        · refine lv_iconst (v := 2) hx hb dX6_lighter_34 (by decide) ?_
          refine lv_goto (tgt := 39) hx hb dX6_lighter_35 (by decide) ?_
          refine r_put S hh hz hin 21 (by decide) rfl rfl rfl (by decide +kernel) dX6_lighter_39 (fun f9 H locs hh hz => ?_)
          refine lv_aload_n hx hb dX6_lighter_42 rfl (lv_at hl 0 rfl) ?_
          refine r_get S hh hz hin 21 (by decide) rfl rfl (by decide +kernel) dX6_lighter_43 ?_
          refine lv_if_eq (tgt := 51) hx hb dX6_lighter_46 (by decide) (fun c => absurd (show (2 : Int32) = (0 : Int32) from c) (by decide)) (fun _ => ?_)
          refine lv_iconst (v := 0) hx hb dX6_lighter_49 (by decide) ?_
          exact k_iret hx hb hr hlk hh dX6_lighter_50 (Nat.le_of_ble_eq_true rfl) (Nat.le_of_ble_eq_true rfl) (by
  have hT : lighterT M x = 2 := by (unfold lighterT; (repeat' split); all_goals first | rfl | contradiction)
  exact ⟨congrArg (fun r => some (Value.int r)) (by rw [if_neg (by rw [hT]; decide)]; try rfl), rfl, hz.cast (by unfold lighterF; rw [if_neg (by rw [hT]; decide)]; rw [hT]; try rfl)⟩)
    · refine lv_iconst (v := 1) hx hb dX6_lighter_14 (by decide) ?_
      refine lv_goto (tgt := 39) hx hb dX6_lighter_15 (by decide) ?_
      refine r_put S hh hz hin 21 (by decide) rfl rfl rfl (by decide +kernel) dX6_lighter_39 (fun f9 H locs hh hz => ?_)
      refine lv_aload_n hx hb dX6_lighter_42 rfl (lv_at hl 0 rfl) ?_
      refine r_get S hh hz hin 21 (by decide) rfl rfl (by decide +kernel) dX6_lighter_43 ?_
      refine lv_if_eq (tgt := 51) hx hb dX6_lighter_46 (by decide) (fun c => absurd (show (1 : Int32) = (0 : Int32) from c) (by decide)) (fun _ => ?_)
      refine lv_iconst (v := 0) hx hb dX6_lighter_49 (by decide) ?_
      exact k_iret hx hb hr hlk hh dX6_lighter_50 (Nat.le_of_ble_eq_true rfl) (Nat.le_of_ble_eq_true rfl) (by
  have hT : lighterT M x = 1 := by (unfold lighterT; (repeat' split); all_goals first | rfl | contradiction)
  exact ⟨congrArg (fun r => some (Value.int r)) (by rw [if_neg (by rw [hT]; decide)]; try rfl), rfl, hz.cast (by unfold lighterF; rw [if_neg (by rw [hT]; decide)]; rw [hT]; try rfl)⟩)

set_option maxRecDepth 100000 in
set_option maxHeartbeats 4000000 in
theorem c_gang {l : Launch} {κ : Kx} {xm : Nat} {b : Nat → Nat} {M : MS} {L : List Nat} {f0 f : Nat → va_E} (hz : ZR κ xm b M L f0 f) {x : Int32} {ng : Nat} (hn : M 17 0 = nI ng) (hng : ng ≤ 6) : PM l κ yX6_gang wsX6_gang ({ frames := 0, cells := 0, slots := 0, locals := 0 } : Room) [.ref xm, .int x] L f (fun v L1 f1 => v = some (.int (if gangT M x = 0 then M 17 0 else 0)) ∧ L = L1 ∧ ZR κ xm b (gangF M x) L f f1) noX 0 0 := by
  refine PM.mk (cc := cX6_gang) (maxL := 2) (ret := (some .int)) (by decide) rfl (Nat.le_of_ble_eq_true rfl) ?_
  intro p e s m args below meth c ls hx hb hml hr hlk hnm hown hts ht hh hl
  have hl : lv_has ls 2 [(0, .ref xm), (1, .int x)] := hl
  have S : CallFix p m c cX6_gang 2 s args wsX6_gang RX6 := ⟨hx, hb, hml, hown, hts⟩
  have hin : ∀ w ∈ wsX60, w ∈ wsX6_gang := by decide +kernel
  have hz := hz.self
  refine lv_aload_n hx hb dX6_gang_0 rfl (lv_at hl 0 rfl) ?_
  refine lv_iload_n hx hb dX6_gang_1 rfl (lv_at hl 1 rfl) ?_
  refine lv_iconst (v := 1) hx hb dX6_gang_2 (by decide) ?_
  refine lv_icmp_lt (tgt := 12) hx hb dX6_gang_3 (by decide) (fun c3 => ?_) (fun c3 => ?_)
  · refine lv_iconst (v := 1) hx hb dX6_gang_12 (by decide) ?_
    refine lv_goto (tgt := 30) hx hb dX6_gang_13 (by decide) ?_
    refine r_put S hh hz hin 21 (by decide) rfl rfl rfl (by decide +kernel) dX6_gang_30 (fun f9 H locs hh hz => ?_)
    refine lv_aload_n hx hb dX6_gang_33 rfl (lv_at hl 0 rfl) ?_
    refine r_get S hh hz hin 21 (by decide) rfl rfl (by decide +kernel) dX6_gang_34 ?_
    refine lv_if_eq (tgt := 42) hx hb dX6_gang_37 (by decide) (fun c => absurd (show (1 : Int32) = (0 : Int32) from c) (by decide)) (fun _ => ?_)
    refine lv_iconst (v := 0) hx hb dX6_gang_40 (by decide) ?_
    exact k_iret hx hb hr hlk hh dX6_gang_41 (Nat.le_of_ble_eq_true rfl) (Nat.le_of_ble_eq_true rfl) (by
  have hT : gangT M x = 1 := by (unfold gangT; (repeat' split); all_goals first | rfl | contradiction)
  exact ⟨congrArg (fun r => some (Value.int r)) (by rw [if_neg (by rw [hT]; decide)]; try rfl), rfl, hz.cast (by unfold gangF; rw [if_neg (by rw [hT]; decide)]; rw [hT]; try rfl)⟩)
  · refine lv_iload_n hx hb dX6_gang_6 rfl (lv_at hl 1 rfl) ?_
    refine lv_bipush (v := 20) hx hb dX6_gang_7 (by decide) ?_
    refine lv_icmp_le (tgt := 16) hx hb dX6_gang_9 (by decide) (fun c9 => ?_) (fun c9 => ?_)
    · refine lv_aload_n hx hb dX6_gang_16 rfl (lv_at hl 0 rfl) ?_
      refine r_get S hh hz hin 17 (by decide) rfl rfl (by decide +kernel) dX6_gang_17 ?_
      refine lv_bipush (v := 6) hx hb dX6_gang_20 (by decide) ?_
      refine lv_icmp_ne (tgt := 29) hx hb dX6_gang_22 (by decide) (fun c22 => ?_) (fun c22 => ?_)
      · have hne : ng ≠ 6 := fun q => c22 (by rw [hn, q]; rfl)
        obtain ⟨hix, hie9⟩ := ix_of hn (by omega)
        have hlt : nT (M 17 0) < 6 := by omega
        refine lv_iconst (v := 0) hx hb dX6_gang_29 (by decide) ?_
        refine r_put S hh hz hin 21 (by decide) rfl rfl rfl (by decide +kernel) dX6_gang_30 (fun f9 H locs hh hz => ?_)
        refine lv_aload_n hx hb dX6_gang_33 rfl (lv_at hl 0 rfl) ?_
        refine r_get S hh hz hin 21 (by decide) rfl rfl (by decide +kernel) dX6_gang_34 ?_
        refine lv_if_eq (tgt := 42) hx hb dX6_gang_37 (by decide) (fun _ => ?_) (fun c => absurd (show ¬ (0 : Int32) = (0 : Int32) from c) (by decide))
        refine lv_aload_n hx hb dX6_gang_42 rfl (lv_at hl 0 rfl) ?_
        refine r_get S hh hz hin 9 (by decide) rfl rfl (by decide +kernel) dX6_gang_43 ?_
        refine lv_aload_n hx hb dX6_gang_46 rfl (lv_at hl 0 rfl) ?_
        refine r_get S hh hz hin 17 (by decide) rfl rfl (by decide +kernel) dX6_gang_47 ?_
        refine lv_iload_n hx hb dX6_gang_50 rfl (lv_at hl 1 rfl) ?_
        refine r_ast (k := 9) (i := (nT (M 17 0))) S hh hz (by decide) hix hlt dX6_gang_51 (fun f9 H locs hh hz => ?_)
        refine lv_aload_n hx hb dX6_gang_52 rfl (lv_at hl 0 rfl) ?_
        refine lv_dup hx hb dX6_gang_53 rfl ?_
        refine r_get S hh hz hin 17 (by decide) rfl rfl (by decide +kernel) dX6_gang_54 ?_
        refine lv_iconst (v := 1) hx hb dX6_gang_57 (by decide) ?_
        refine lv_iadd hx hb dX6_gang_58 ?_
        refine r_put S hh hz hin 17 (by decide) rfl rfl rfl (by decide +kernel) dX6_gang_59 (fun f9 H locs hh hz => ?_)
        refine lv_aload_n hx hb dX6_gang_62 rfl (lv_at hl 0 rfl) ?_
        refine r_get S hh hz hin 17 (by decide) rfl rfl (by decide +kernel) dX6_gang_63 ?_
        refine lv_iconst (v := 1) hx hb dX6_gang_66 (by decide) ?_
        refine lv_isub hx hb dX6_gang_67 ?_
        exact k_iret hx hb hr hlk hh dX6_gang_68 (Nat.le_of_ble_eq_true rfl) (Nat.le_of_ble_eq_true rfl) (by
  have hT : gangT M x = 0 := by (unfold gangT; (repeat' split); all_goals first | rfl | contradiction)
  exact ⟨congrArg (fun r => some (Value.int r)) (by rw [if_pos hT]; exact Int32.add_sub_cancel _ _), rfl, hz.cast (by unfold gangF; rw [if_pos hT]; try rfl)⟩)
      · refine lv_iconst (v := 2) hx hb dX6_gang_25 (by decide) ?_
        refine lv_goto (tgt := 30) hx hb dX6_gang_26 (by decide) ?_
        refine r_put S hh hz hin 21 (by decide) rfl rfl rfl (by decide +kernel) dX6_gang_30 (fun f9 H locs hh hz => ?_)
        refine lv_aload_n hx hb dX6_gang_33 rfl (lv_at hl 0 rfl) ?_
        refine r_get S hh hz hin 21 (by decide) rfl rfl (by decide +kernel) dX6_gang_34 ?_
        refine lv_if_eq (tgt := 42) hx hb dX6_gang_37 (by decide) (fun c => absurd (show (2 : Int32) = (0 : Int32) from c) (by decide)) (fun _ => ?_)
        refine lv_iconst (v := 0) hx hb dX6_gang_40 (by decide) ?_
        exact k_iret hx hb hr hlk hh dX6_gang_41 (Nat.le_of_ble_eq_true rfl) (Nat.le_of_ble_eq_true rfl) (by
  have hT : gangT M x = 2 := by (unfold gangT; (repeat' split); all_goals first | rfl | contradiction)
  exact ⟨congrArg (fun r => some (Value.int r)) (by rw [if_neg (by rw [hT]; decide)]; try rfl), rfl, hz.cast (by unfold gangF; rw [if_neg (by rw [hT]; decide)]; rw [hT]; try rfl)⟩)
    · refine lv_iconst (v := 1) hx hb dX6_gang_12 (by decide) ?_
      refine lv_goto (tgt := 30) hx hb dX6_gang_13 (by decide) ?_
      refine r_put S hh hz hin 21 (by decide) rfl rfl rfl (by decide +kernel) dX6_gang_30 (fun f9 H locs hh hz => ?_)
      refine lv_aload_n hx hb dX6_gang_33 rfl (lv_at hl 0 rfl) ?_
      refine r_get S hh hz hin 21 (by decide) rfl rfl (by decide +kernel) dX6_gang_34 ?_
      refine lv_if_eq (tgt := 42) hx hb dX6_gang_37 (by decide) (fun c => absurd (show (1 : Int32) = (0 : Int32) from c) (by decide)) (fun _ => ?_)
      refine lv_iconst (v := 0) hx hb dX6_gang_40 (by decide) ?_
      exact k_iret hx hb hr hlk hh dX6_gang_41 (Nat.le_of_ble_eq_true rfl) (Nat.le_of_ble_eq_true rfl) (by
  have hT : gangT M x = 1 := by (unfold gangT; (repeat' split); all_goals first | rfl | contradiction)
  exact ⟨congrArg (fun r => some (Value.int r)) (by rw [if_neg (by rw [hT]; decide)]; try rfl), rfl, hz.cast (by unfold gangF; rw [if_neg (by rw [hT]; decide)]; rw [hT]; try rfl)⟩)

set_option maxRecDepth 100000 in
set_option maxHeartbeats 4000000 in
theorem c_steamer {l : Launch} {κ : Kx} {xm : Nat} {b : Nat → Nat} {M : MS} {L : List Nat} {f0 f : Nat → va_E} (hz : ZR κ xm b M L f0 f) {x y : Int32} {ns : Nat} (hn : M 18 0 = nI ns) (hns : ns < 600) : PM l κ yX6_steamer wsX6_steamer ({ frames := 1, cells := 0, slots := 0, locals := 23 } : Room) [.ref xm, .int x, .int y] L f (fun v L1 f1 => v = some (.int (if steamerT M ns x y = 0 then M 18 0 else 0)) ∧ L = L1 ∧ ZR κ xm b (steamerF M ns x y) L f f1) noX 0 0 := by
  refine PM.mk (cc := cX6_steamer) (maxL := 3) (ret := (some .int)) (by decide) rfl (Nat.le_of_ble_eq_true rfl) ?_
  intro p e s m args below meth c ls hx hb hml hr hlk hnm hown hts ht hh hl
  have hl : lv_has ls 3 [(0, .ref xm), (1, .int x), (2, .int y)] := hl
  have S : CallFix p m c cX6_steamer 3 s args wsX6_steamer RX6 := ⟨hx, hb, hml, hown, hts⟩
  have hin : ∀ w ∈ wsX60, w ∈ wsX6_steamer := by decide +kernel
  have hz := hz.self
  obtain ⟨hix, hie9⟩ := ix_of hn (by omega)
  have hlt : nT (M 18 0) < 600 := by omega
  refine lv_aload_n hx hb dX6_steamer_0 rfl (lv_at hl 0 rfl) ?_
  refine lv_iload_n hx hb dX6_steamer_1 rfl (lv_at hl 1 rfl) ?_
  refine lv_iconst (v := 1) hx hb dX6_steamer_2 (by decide) ?_
  refine lv_icmp_lt (tgt := 25) hx hb dX6_steamer_3 (by decide) (fun c3 => ?_) (fun c3 => ?_)
  · refine lv_iconst (v := 1) hx hb dX6_steamer_25 (by decide) ?_
    refine lv_goto (tgt := 44) hx hb dX6_steamer_26 (by decide) ?_
    refine r_put S hh hz hin 21 (by decide) rfl rfl rfl (by decide +kernel) dX6_steamer_44 (fun f9 H locs hh hz => ?_)
    refine lv_aload_n hx hb dX6_steamer_47 rfl (lv_at hl 0 rfl) ?_
    refine r_get S hh hz hin 21 (by decide) rfl rfl (by decide +kernel) dX6_steamer_48 ?_
    refine lv_if_eq (tgt := 56) hx hb dX6_steamer_51 (by decide) (fun c => absurd (show (1 : Int32) = (0 : Int32) from c) (by decide)) (fun _ => ?_)
    refine lv_iconst (v := 0) hx hb dX6_steamer_54 (by decide) ?_
    exact k_iret hx hb hr hlk hh dX6_steamer_55 (Nat.le_of_ble_eq_true rfl) (Nat.le_of_ble_eq_true rfl) (by
  have hT : steamerT M ns x y = 1 := by (unfold steamerT; (repeat' split); all_goals first | rfl | contradiction)
  exact ⟨congrArg (fun r => some (Value.int r)) (by rw [if_neg (by rw [hT]; decide)]; try rfl), rfl, hz.cast (by unfold steamerF; rw [if_neg (by rw [hT]; decide)]; rw [hT]; try rfl)⟩)
  · refine lv_iload_n hx hb dX6_steamer_6 rfl (lv_at hl 1 rfl) ?_
    refine lv_sipush (v := 9999) hx hb dX6_steamer_7 (by decide) ?_
    refine lv_icmp_gt (tgt := 25) hx hb dX6_steamer_10 (by decide) (fun c10 => ?_) (fun c10 => ?_)
    · refine lv_iconst (v := 1) hx hb dX6_steamer_25 (by decide) ?_
      refine lv_goto (tgt := 44) hx hb dX6_steamer_26 (by decide) ?_
      refine r_put S hh hz hin 21 (by decide) rfl rfl rfl (by decide +kernel) dX6_steamer_44 (fun f9 H locs hh hz => ?_)
      refine lv_aload_n hx hb dX6_steamer_47 rfl (lv_at hl 0 rfl) ?_
      refine r_get S hh hz hin 21 (by decide) rfl rfl (by decide +kernel) dX6_steamer_48 ?_
      refine lv_if_eq (tgt := 56) hx hb dX6_steamer_51 (by decide) (fun c => absurd (show (1 : Int32) = (0 : Int32) from c) (by decide)) (fun _ => ?_)
      refine lv_iconst (v := 0) hx hb dX6_steamer_54 (by decide) ?_
      exact k_iret hx hb hr hlk hh dX6_steamer_55 (Nat.le_of_ble_eq_true rfl) (Nat.le_of_ble_eq_true rfl) (by
  have hT : steamerT M ns x y = 1 := by (unfold steamerT; (repeat' split); all_goals first | rfl | contradiction)
  exact ⟨congrArg (fun r => some (Value.int r)) (by rw [if_neg (by rw [hT]; decide)]; try rfl), rfl, hz.cast (by unfold steamerF; rw [if_neg (by rw [hT]; decide)]; rw [hT]; try rfl)⟩)
    · refine lv_iload_n hx hb dX6_steamer_13 rfl (lv_at hl 2 rfl) ?_
      refine lv_iconst (v := 1) hx hb dX6_steamer_14 (by decide) ?_
      refine lv_icmp_lt (tgt := 25) hx hb dX6_steamer_15 (by decide) (fun c15 => ?_) (fun c15 => ?_)
      · refine lv_iconst (v := 1) hx hb dX6_steamer_25 (by decide) ?_
        refine lv_goto (tgt := 44) hx hb dX6_steamer_26 (by decide) ?_
        refine r_put S hh hz hin 21 (by decide) rfl rfl rfl (by decide +kernel) dX6_steamer_44 (fun f9 H locs hh hz => ?_)
        refine lv_aload_n hx hb dX6_steamer_47 rfl (lv_at hl 0 rfl) ?_
        refine r_get S hh hz hin 21 (by decide) rfl rfl (by decide +kernel) dX6_steamer_48 ?_
        refine lv_if_eq (tgt := 56) hx hb dX6_steamer_51 (by decide) (fun c => absurd (show (1 : Int32) = (0 : Int32) from c) (by decide)) (fun _ => ?_)
        refine lv_iconst (v := 0) hx hb dX6_steamer_54 (by decide) ?_
        exact k_iret hx hb hr hlk hh dX6_steamer_55 (Nat.le_of_ble_eq_true rfl) (Nat.le_of_ble_eq_true rfl) (by
  have hT : steamerT M ns x y = 1 := by (unfold steamerT; (repeat' split); all_goals first | rfl | contradiction)
  exact ⟨congrArg (fun r => some (Value.int r)) (by rw [if_neg (by rw [hT]; decide)]; try rfl), rfl, hz.cast (by unfold steamerF; rw [if_neg (by rw [hT]; decide)]; rw [hT]; try rfl)⟩)
      · refine lv_iload_n hx hb dX6_steamer_18 rfl (lv_at hl 2 rfl) ?_
        refine lv_sipush (v := 500) hx hb dX6_steamer_19 (by decide) ?_
        refine lv_icmp_le (tgt := 29) hx hb dX6_steamer_22 (by decide) (fun c22 => ?_) (fun c22 => ?_)
        · refine lv_aload_n hx hb dX6_steamer_29 rfl (lv_at hl 0 rfl) ?_
          refine lv_iconst (v := 0) hx hb dX6_steamer_30 (by decide) ?_
          refine k_callV0 (As := [.int 0]) (c_many hz (how := 0) hn (by omega)) S hh (cwV 1 hts gX6_steamer_X6_many rfl rfl rfl (by decide +kernel) ⟨(Nat.le_of_ble_eq_true rfl), (Nat.le_of_ble_eq_true rfl)⟩) hz.1.1 hz.1.2 (q := (RX6, TX6, 22)) rfl rfl rfl hl.1 rfl (Nat.le_of_ble_eq_true rfl) dX6_steamer_31 ⟨(Nat.le_of_ble_eq_true rfl), (Nat.le_of_ble_eq_true rfl)⟩ (fun v L1 f1 H locs hp hh => ?_)
          obtain ⟨rfl, hL1, hf1⟩ := hp
          subst hL1; subst hf1
          refine lv_bipush (v := 8) hx hb dX6_steamer_34 (by decide) ?_
          refine lv_icmp_ne (tgt := 43) hx hb dX6_steamer_36 (by decide) (fun c36 => ?_) (fun c36 => ?_)
          · refine lv_iconst (v := 0) hx hb dX6_steamer_43 (by decide) ?_
            refine r_put S hh hz hin 21 (by decide) rfl rfl rfl (by decide +kernel) dX6_steamer_44 (fun f9 H locs hh hz => ?_)
            refine lv_aload_n hx hb dX6_steamer_47 rfl (lv_at hl 0 rfl) ?_
            refine r_get S hh hz hin 21 (by decide) rfl rfl (by decide +kernel) dX6_steamer_48 ?_
            refine lv_if_eq (tgt := 56) hx hb dX6_steamer_51 (by decide) (fun _ => ?_) (fun c => absurd (show ¬ (0 : Int32) = (0 : Int32) from c) (by decide))
            refine lv_aload_n hx hb dX6_steamer_56 rfl (lv_at hl 0 rfl) ?_
            refine r_get S hh hz hin 12 (by decide) rfl rfl (by decide +kernel) dX6_steamer_57 ?_
            refine lv_aload_n hx hb dX6_steamer_60 rfl (lv_at hl 0 rfl) ?_
            refine r_get S hh hz hin 18 (by decide) rfl rfl (by decide +kernel) dX6_steamer_61 ?_
            refine lv_iload_n hx hb dX6_steamer_64 rfl (lv_at hl 1 rfl) ?_
            refine r_ast (k := 12) (i := (nT (M 18 0))) S hh hz (by decide) hix hlt dX6_steamer_65 (fun f9 H locs hh hz => ?_)
            refine lv_aload_n hx hb dX6_steamer_66 rfl (lv_at hl 0 rfl) ?_
            refine r_get S hh hz hin 13 (by decide) rfl rfl (by decide +kernel) dX6_steamer_67 ?_
            refine lv_aload_n hx hb dX6_steamer_70 rfl (lv_at hl 0 rfl) ?_
            refine r_get S hh hz hin 18 (by decide) rfl rfl (by decide +kernel) dX6_steamer_71 ?_
            refine lv_aload_n hx hb dX6_steamer_74 rfl (lv_at hl 0 rfl) ?_
            refine r_get S hh hz hin 19 (by decide) rfl rfl (by decide +kernel) dX6_steamer_75 ?_
            refine lv_iload_n hx hb dX6_steamer_78 rfl (lv_at hl 2 rfl) ?_
            refine lv_iadd hx hb dX6_steamer_79 ?_
            refine r_ast (k := 13) (i := (nT (M 18 0))) S hh hz (by decide) hix hlt dX6_steamer_80 (fun f9 H locs hh hz => ?_)
            refine lv_aload_n hx hb dX6_steamer_81 rfl (lv_at hl 0 rfl) ?_
            refine lv_dup hx hb dX6_steamer_82 rfl ?_
            refine r_get S hh hz hin 18 (by decide) rfl rfl (by decide +kernel) dX6_steamer_83 ?_
            refine lv_iconst (v := 1) hx hb dX6_steamer_86 (by decide) ?_
            refine lv_iadd hx hb dX6_steamer_87 ?_
            refine r_put S hh hz hin 18 (by decide) rfl rfl rfl (by decide +kernel) dX6_steamer_88 (fun f9 H locs hh hz => ?_)
            refine lv_aload_n hx hb dX6_steamer_91 rfl (lv_at hl 0 rfl) ?_
            refine r_get S hh hz hin 18 (by decide) rfl rfl (by decide +kernel) dX6_steamer_92 ?_
            refine lv_iconst (v := 1) hx hb dX6_steamer_95 (by decide) ?_
            refine lv_isub hx hb dX6_steamer_96 ?_
            exact k_iret hx hb hr hlk hh dX6_steamer_97 (Nat.le_of_ble_eq_true rfl) (Nat.le_of_ble_eq_true rfl) (by
  have hT : steamerT M ns x y = 0 := by (unfold steamerT; (repeat' split); all_goals first | rfl | contradiction)
  exact ⟨congrArg (fun r => some (Value.int r)) (by rw [if_pos hT]; exact Int32.add_sub_cancel _ _), rfl, hz.cast (by unfold steamerF; rw [if_pos hT]; try rfl)⟩)
          · refine lv_iconst (v := 2) hx hb dX6_steamer_39 (by decide) ?_
            refine lv_goto (tgt := 44) hx hb dX6_steamer_40 (by decide) ?_
            refine r_put S hh hz hin 21 (by decide) rfl rfl rfl (by decide +kernel) dX6_steamer_44 (fun f9 H locs hh hz => ?_)
            refine lv_aload_n hx hb dX6_steamer_47 rfl (lv_at hl 0 rfl) ?_
            refine r_get S hh hz hin 21 (by decide) rfl rfl (by decide +kernel) dX6_steamer_48 ?_
            refine lv_if_eq (tgt := 56) hx hb dX6_steamer_51 (by decide) (fun c => absurd (show (2 : Int32) = (0 : Int32) from c) (by decide)) (fun _ => ?_)
            refine lv_iconst (v := 0) hx hb dX6_steamer_54 (by decide) ?_
            exact k_iret hx hb hr hlk hh dX6_steamer_55 (Nat.le_of_ble_eq_true rfl) (Nat.le_of_ble_eq_true rfl) (by
  have hT : steamerT M ns x y = 2 := by (unfold steamerT; (repeat' split); all_goals first | rfl | contradiction)
  exact ⟨congrArg (fun r => some (Value.int r)) (by rw [if_neg (by rw [hT]; decide)]; try rfl), rfl, hz.cast (by unfold steamerF; rw [if_neg (by rw [hT]; decide)]; rw [hT]; try rfl)⟩)
        · refine lv_iconst (v := 1) hx hb dX6_steamer_25 (by decide) ?_
          refine lv_goto (tgt := 44) hx hb dX6_steamer_26 (by decide) ?_
          refine r_put S hh hz hin 21 (by decide) rfl rfl rfl (by decide +kernel) dX6_steamer_44 (fun f9 H locs hh hz => ?_)
          refine lv_aload_n hx hb dX6_steamer_47 rfl (lv_at hl 0 rfl) ?_
          refine r_get S hh hz hin 21 (by decide) rfl rfl (by decide +kernel) dX6_steamer_48 ?_
          refine lv_if_eq (tgt := 56) hx hb dX6_steamer_51 (by decide) (fun c => absurd (show (1 : Int32) = (0 : Int32) from c) (by decide)) (fun _ => ?_)
          refine lv_iconst (v := 0) hx hb dX6_steamer_54 (by decide) ?_
          exact k_iret hx hb hr hlk hh dX6_steamer_55 (Nat.le_of_ble_eq_true rfl) (Nat.le_of_ble_eq_true rfl) (by
  have hT : steamerT M ns x y = 1 := by (unfold steamerT; (repeat' split); all_goals first | rfl | contradiction)
  exact ⟨congrArg (fun r => some (Value.int r)) (by rw [if_neg (by rw [hT]; decide)]; try rfl), rfl, hz.cast (by unfold steamerF; rw [if_neg (by rw [hT]; decide)]; rw [hT]; try rfl)⟩)

set_option maxRecDepth 100000 in
set_option maxHeartbeats 4000000 in
theorem c_isBusy {l : Launch} {κ : Kx} {xm : Nat} {b : Nat → Nat} {M : MS} {L : List Nat} {f0 f : Nat → va_E} (hz : ZR κ xm b M L f0 f) {gi nl : Nat} (hg : gi < 6) (hn : M 16 0 = nI nl) (hnl : nl ≤ 6) : PM l κ yX6_isBusy wsX6_isBusy ({ frames := 0, cells := 0, slots := 0, locals := 0 } : Room) [.ref xm, .int (nI gi)] L f (fun v L1 f1 => v = some (.int (busyF M gi nl)) ∧ L = L1 ∧ f = f1) noX 0 0 := by
  refine PM.mk (cc := cX6_isBusy) (maxL := 4) (ret := (some .boolean)) (by decide) rfl (Nat.le_of_ble_eq_true rfl) ?_
  intro p e s m args below meth c ls hx hb hml hr hlk hnm hown hts ht hh hl
  have hl : lv_has ls 4 [(0, .ref xm), (1, .int (nI gi))] := hl
  have S : CallFix p m c cX6_isBusy 4 s args wsX6_isBusy RX6 := ⟨hx, hb, hml, hown, hts⟩
  have hin : ∀ w ∈ wsX60, w ∈ wsX6_isBusy := by decide +kernel
  refine lv_aload_n hx hb dX6_isBusy_0 rfl (lv_at hl 0 rfl) ?_
  refine r_get S hh hz hin 11 (by decide) rfl rfl (by decide +kernel) dX6_isBusy_1 ?_
  refine lv_iload_n hx hb dX6_isBusy_4 rfl (lv_at hl 1 rfl) ?_
  refine r_ald (k := 11) (i := gi) S hh hz (by decide) rfl hg dX6_isBusy_5 ?_
  refine lv_if_le (tgt := 13) hx hb dX6_isBusy_6 (by decide) (fun c6 => ?_) (fun c6 => ?_)
  · refine lv_iconst (v := 0) hx hb dX6_isBusy_13 (by decide) ?_
    refine lv_istore_n (lv' := [(2, .int 0), (0, .ref xm), (1, .int (nI gi))]) hx hb dX6_isBusy_14 rfl hl (by decide) rfl (fun ls hl => ?_)
    refine lv_iconst (v := 0) hx hb dX6_isBusy_15 (by decide) ?_
    refine lv_istore_n (lv' := [(3, .int 0), (2, .int 0), (0, .ref xm), (1, .int (nI gi))]) hx hb dX6_isBusy_16 rfl hl (by decide) rfl (fun ls hl => ?_)
    have loop : ∀ (n i : Nat) (x2 x3 : Int32), i ≤ nl → nl + 1 ≤ i + n → x3 = nI i → x2 = busyF M gi i → ∀ ls : Array Slot, lv_has ls 4 [(0, .ref xm), (1, .int (nI gi)), (2, .int x2), (3, .int x3)] → W p l e ({ frames := 0, cells := 0, slots := 0, locals := 0 } : Room) s m args below meth c s.heap [] 0 0 (vx_MQ below (PQ κ (fun v L1 f1 => v = some (.int (busyF M gi nl)) ∧ L = L1 ∧ f = f1)) (PX κ L f noX) args s 0 0 (kA κ)) (F0 m 17 ls []) := by
      intro n
      induction n with
      | zero =>
        intro i x2 x3 h1 h2
        exact absurd h2 (by omega)
      | succ n ih =>
        intro i x2 x3 hi hin3 ex3 ex2 ls hl
        refine lv_iload_n hx hb dX6_isBusy_17 rfl (lv_at hl 3 rfl) ?_
        refine lv_aload_n hx hb dX6_isBusy_18 rfl (lv_at hl 0 rfl) ?_
        refine r_get S hh hz hin 16 (by decide) rfl rfl (by decide +kernel) dX6_isBusy_19 ?_
        refine lv_icmp_ge (tgt := 51) hx hb dX6_isBusy_22 (by decide) (fun c22 => ?_) (fun c22 => ?_)
        · have hie : i = nl := by
            rcases Nat.lt_or_ge i nl with q | q
            · exact absurd c22 (by rw [hn, ex3]; exact nI_ge q (by omega))
            · omega
          refine lv_iload_n hx hb dX6_isBusy_51 rfl (lv_at hl 2 rfl) ?_
          exact k_zret hx hb hr hlk (busy_nar ex2) hh dX6_isBusy_52 (Nat.le_of_ble_eq_true rfl) (Nat.le_of_ble_eq_true rfl) ⟨congrArg (fun r => some (Value.int r)) (by rw [ex2, hie]), rfl, rfl⟩
        · have hlt : i < nl := by
            rcases Nat.lt_or_ge i nl with q | q
            · exact q
            · exact absurd (by rw [hn, ex3]; exact nI_le q (by omega)) c22
          refine lv_iload_n hx hb dX6_isBusy_25 rfl (lv_at hl 2 rfl) ?_
          refine lv_if_ne (tgt := 39) hx hb dX6_isBusy_26 (by decide) (fun c26 => ?_) (fun c26 => ?_)
          · refine lv_iconst (v := 1) hx hb dX6_isBusy_39 (by decide) ?_
            refine lv_goto (tgt := 44) hx hb dX6_isBusy_40 (by decide) ?_
            refine lv_istore_n (lv' := [(2, .int 1), (0, .ref xm), (1, .int (nI gi)), (3, .int x3)]) hx hb dX6_isBusy_44 rfl hl (by decide) rfl (fun ls hl => ?_)
            obtain ⟨x45, e45⟩ : ∃ y : Int32, y = x3 + 1 := ⟨_, rfl⟩
            refine lv_iinc (v := x45) (lv' := [(3, .int x45), (2, .int 1), (0, .ref xm), (1, .int (nI gi))]) hx hb dX6_isBusy_45 hl (k := 3) rfl (by rw [e45]; rfl) (by decide) rfl (fun ls hl => ?_)
            refine lv_goto (tgt := 17) hx hb dX6_isBusy_48 (by decide) ?_
            exact ih (i + 1) 1 x45 (by omega) (by omega) (by rw [e45, ex3]; exact nI_1 i) (by first | (rw [ex2] at c26; rw [busyF, if_neg c26]) | (rw [ex2] at c26; rw [busyF, if_pos c26]; first | rw [if_pos (by assumption)] | rw [if_neg (by assumption)])) ls (lv_sub hl [2, 3, 1, 0] rfl)
          · refine lv_aload_n hx hb dX6_isBusy_29 rfl (lv_at hl 0 rfl) ?_
            refine r_get S hh hz hin 6 (by decide) rfl rfl (by decide +kernel) dX6_isBusy_30 ?_
            refine lv_iload_n hx hb dX6_isBusy_33 rfl (lv_at hl 3 rfl) ?_
            refine r_ald (k := 6) (i := i) S hh hz (by decide) ex3 (show i < 6 by omega) dX6_isBusy_34 ?_
            refine lv_iload_n hx hb dX6_isBusy_35 rfl (lv_at hl 1 rfl) ?_
            refine lv_icmp_ne (tgt := 43) hx hb dX6_isBusy_36 (by decide) (fun c36 => ?_) (fun c36 => ?_)
            · refine lv_iconst (v := 0) hx hb dX6_isBusy_43 (by decide) ?_
              refine lv_istore_n (lv' := [(2, .int 0), (0, .ref xm), (1, .int (nI gi)), (3, .int x3)]) hx hb dX6_isBusy_44 rfl hl (by decide) rfl (fun ls hl => ?_)
              obtain ⟨x45, e45⟩ : ∃ y : Int32, y = x3 + 1 := ⟨_, rfl⟩
              refine lv_iinc (v := x45) (lv' := [(3, .int x45), (2, .int 0), (0, .ref xm), (1, .int (nI gi))]) hx hb dX6_isBusy_45 hl (k := 3) rfl (by rw [e45]; rfl) (by decide) rfl (fun ls hl => ?_)
              refine lv_goto (tgt := 17) hx hb dX6_isBusy_48 (by decide) ?_
              exact ih (i + 1) 0 x45 (by omega) (by omega) (by rw [e45, ex3]; exact nI_1 i) (by first | (rw [ex2] at c26; rw [busyF, if_neg c26]) | (rw [ex2] at c26; rw [busyF, if_pos c26]; first | rw [if_pos (by assumption)] | rw [if_neg (by assumption)])) ls (lv_sub hl [2, 3, 1, 0] rfl)
            · refine lv_iconst (v := 1) hx hb dX6_isBusy_39 (by decide) ?_
              refine lv_goto (tgt := 44) hx hb dX6_isBusy_40 (by decide) ?_
              refine lv_istore_n (lv' := [(2, .int 1), (0, .ref xm), (1, .int (nI gi)), (3, .int x3)]) hx hb dX6_isBusy_44 rfl hl (by decide) rfl (fun ls hl => ?_)
              obtain ⟨x45, e45⟩ : ∃ y : Int32, y = x3 + 1 := ⟨_, rfl⟩
              refine lv_iinc (v := x45) (lv' := [(3, .int x45), (2, .int 1), (0, .ref xm), (1, .int (nI gi))]) hx hb dX6_isBusy_45 hl (k := 3) rfl (by rw [e45]; rfl) (by decide) rfl (fun ls hl => ?_)
              refine lv_goto (tgt := 17) hx hb dX6_isBusy_48 (by decide) ?_
              exact ih (i + 1) 1 x45 (by omega) (by omega) (by rw [e45, ex3]; exact nI_1 i) (by first | (rw [ex2] at c26; rw [busyF, if_neg c26]) | (rw [ex2] at c26; rw [busyF, if_pos c26]; first | rw [if_pos (by assumption)] | rw [if_neg (by assumption)])) ls (lv_sub hl [2, 3, 1, 0] rfl)
    exact loop (nl + 1) 0 0 0 (Nat.zero_le _) (by omega) rfl (by unfold busyF; first | rw [if_pos (by assumption)] | rw [if_neg (by assumption)]) ls (lv_sub hl [2, 3, 1, 0] rfl)
  · refine lv_iconst (v := 1) hx hb dX6_isBusy_9 (by decide) ?_
    refine lv_goto (tgt := 14) hx hb dX6_isBusy_10 (by decide) ?_
    refine lv_istore_n (lv' := [(2, .int 1), (0, .ref xm), (1, .int (nI gi))]) hx hb dX6_isBusy_14 rfl hl (by decide) rfl (fun ls hl => ?_)
    refine lv_iconst (v := 0) hx hb dX6_isBusy_15 (by decide) ?_
    refine lv_istore_n (lv' := [(3, .int 0), (2, .int 1), (0, .ref xm), (1, .int (nI gi))]) hx hb dX6_isBusy_16 rfl hl (by decide) rfl (fun ls hl => ?_)
    have loop : ∀ (n i : Nat) (x2 x3 : Int32), i ≤ nl → nl + 1 ≤ i + n → x3 = nI i → x2 = busyF M gi i → ∀ ls : Array Slot, lv_has ls 4 [(0, .ref xm), (1, .int (nI gi)), (2, .int x2), (3, .int x3)] → W p l e ({ frames := 0, cells := 0, slots := 0, locals := 0 } : Room) s m args below meth c s.heap [] 0 0 (vx_MQ below (PQ κ (fun v L1 f1 => v = some (.int (busyF M gi nl)) ∧ L = L1 ∧ f = f1)) (PX κ L f noX) args s 0 0 (kA κ)) (F0 m 17 ls []) := by
      intro n
      induction n with
      | zero =>
        intro i x2 x3 h1 h2
        exact absurd h2 (by omega)
      | succ n ih =>
        intro i x2 x3 hi hin3 ex3 ex2 ls hl
        refine lv_iload_n hx hb dX6_isBusy_17 rfl (lv_at hl 3 rfl) ?_
        refine lv_aload_n hx hb dX6_isBusy_18 rfl (lv_at hl 0 rfl) ?_
        refine r_get S hh hz hin 16 (by decide) rfl rfl (by decide +kernel) dX6_isBusy_19 ?_
        refine lv_icmp_ge (tgt := 51) hx hb dX6_isBusy_22 (by decide) (fun c22 => ?_) (fun c22 => ?_)
        · have hie : i = nl := by
            rcases Nat.lt_or_ge i nl with q | q
            · exact absurd c22 (by rw [hn, ex3]; exact nI_ge q (by omega))
            · omega
          refine lv_iload_n hx hb dX6_isBusy_51 rfl (lv_at hl 2 rfl) ?_
          exact k_zret hx hb hr hlk (busy_nar ex2) hh dX6_isBusy_52 (Nat.le_of_ble_eq_true rfl) (Nat.le_of_ble_eq_true rfl) ⟨congrArg (fun r => some (Value.int r)) (by rw [ex2, hie]), rfl, rfl⟩
        · have hlt : i < nl := by
            rcases Nat.lt_or_ge i nl with q | q
            · exact q
            · exact absurd (by rw [hn, ex3]; exact nI_le q (by omega)) c22
          refine lv_iload_n hx hb dX6_isBusy_25 rfl (lv_at hl 2 rfl) ?_
          refine lv_if_ne (tgt := 39) hx hb dX6_isBusy_26 (by decide) (fun c26 => ?_) (fun c26 => ?_)
          · refine lv_iconst (v := 1) hx hb dX6_isBusy_39 (by decide) ?_
            refine lv_goto (tgt := 44) hx hb dX6_isBusy_40 (by decide) ?_
            refine lv_istore_n (lv' := [(2, .int 1), (0, .ref xm), (1, .int (nI gi)), (3, .int x3)]) hx hb dX6_isBusy_44 rfl hl (by decide) rfl (fun ls hl => ?_)
            obtain ⟨x45, e45⟩ : ∃ y : Int32, y = x3 + 1 := ⟨_, rfl⟩
            refine lv_iinc (v := x45) (lv' := [(3, .int x45), (2, .int 1), (0, .ref xm), (1, .int (nI gi))]) hx hb dX6_isBusy_45 hl (k := 3) rfl (by rw [e45]; rfl) (by decide) rfl (fun ls hl => ?_)
            refine lv_goto (tgt := 17) hx hb dX6_isBusy_48 (by decide) ?_
            exact ih (i + 1) 1 x45 (by omega) (by omega) (by rw [e45, ex3]; exact nI_1 i) (by first | (rw [ex2] at c26; rw [busyF, if_neg c26]) | (rw [ex2] at c26; rw [busyF, if_pos c26]; first | rw [if_pos (by assumption)] | rw [if_neg (by assumption)])) ls (lv_sub hl [2, 3, 1, 0] rfl)
          · refine lv_aload_n hx hb dX6_isBusy_29 rfl (lv_at hl 0 rfl) ?_
            refine r_get S hh hz hin 6 (by decide) rfl rfl (by decide +kernel) dX6_isBusy_30 ?_
            refine lv_iload_n hx hb dX6_isBusy_33 rfl (lv_at hl 3 rfl) ?_
            refine r_ald (k := 6) (i := i) S hh hz (by decide) ex3 (show i < 6 by omega) dX6_isBusy_34 ?_
            refine lv_iload_n hx hb dX6_isBusy_35 rfl (lv_at hl 1 rfl) ?_
            refine lv_icmp_ne (tgt := 43) hx hb dX6_isBusy_36 (by decide) (fun c36 => ?_) (fun c36 => ?_)
            · refine lv_iconst (v := 0) hx hb dX6_isBusy_43 (by decide) ?_
              refine lv_istore_n (lv' := [(2, .int 0), (0, .ref xm), (1, .int (nI gi)), (3, .int x3)]) hx hb dX6_isBusy_44 rfl hl (by decide) rfl (fun ls hl => ?_)
              obtain ⟨x45, e45⟩ : ∃ y : Int32, y = x3 + 1 := ⟨_, rfl⟩
              refine lv_iinc (v := x45) (lv' := [(3, .int x45), (2, .int 0), (0, .ref xm), (1, .int (nI gi))]) hx hb dX6_isBusy_45 hl (k := 3) rfl (by rw [e45]; rfl) (by decide) rfl (fun ls hl => ?_)
              refine lv_goto (tgt := 17) hx hb dX6_isBusy_48 (by decide) ?_
              exact ih (i + 1) 0 x45 (by omega) (by omega) (by rw [e45, ex3]; exact nI_1 i) (by first | (rw [ex2] at c26; rw [busyF, if_neg c26]) | (rw [ex2] at c26; rw [busyF, if_pos c26]; first | rw [if_pos (by assumption)] | rw [if_neg (by assumption)])) ls (lv_sub hl [2, 3, 1, 0] rfl)
            · refine lv_iconst (v := 1) hx hb dX6_isBusy_39 (by decide) ?_
              refine lv_goto (tgt := 44) hx hb dX6_isBusy_40 (by decide) ?_
              refine lv_istore_n (lv' := [(2, .int 1), (0, .ref xm), (1, .int (nI gi)), (3, .int x3)]) hx hb dX6_isBusy_44 rfl hl (by decide) rfl (fun ls hl => ?_)
              obtain ⟨x45, e45⟩ : ∃ y : Int32, y = x3 + 1 := ⟨_, rfl⟩
              refine lv_iinc (v := x45) (lv' := [(3, .int x45), (2, .int 1), (0, .ref xm), (1, .int (nI gi))]) hx hb dX6_isBusy_45 hl (k := 3) rfl (by rw [e45]; rfl) (by decide) rfl (fun ls hl => ?_)
              refine lv_goto (tgt := 17) hx hb dX6_isBusy_48 (by decide) ?_
              exact ih (i + 1) 1 x45 (by omega) (by omega) (by rw [e45, ex3]; exact nI_1 i) (by first | (rw [ex2] at c26; rw [busyF, if_neg c26]) | (rw [ex2] at c26; rw [busyF, if_pos c26]; first | rw [if_pos (by assumption)] | rw [if_neg (by assumption)])) ls (lv_sub hl [2, 3, 1, 0] rfl)
    exact loop (nl + 1) 0 1 0 (Nat.zero_le _) (by omega) rfl (by unfold busyF; first | rw [if_pos (by assumption)] | rw [if_neg (by assumption)]) ls (lv_sub hl [2, 3, 1, 0] rfl)

theorem c_isBusyY {y : Int32} {gi nl : Nat} (hy : y = nI gi) {l : Launch} {κ : Kx} {xm : Nat} {b : Nat → Nat} {M : MS} {L : List Nat} {f0 f : Nat → va_E} (hz : ZR κ xm b M L f0 f) (hg : gi < 6) (hn : M 16 0 = nI nl) (hnl : nl ≤ 6) : PM l κ yX6_isBusy wsX6_isBusy ({ frames := 0, cells := 0, slots := 0, locals := 0 } : Room) [.ref xm, .int y] L f (fun v L1 f1 => v = some (.int (busyF M gi nl)) ∧ L = L1 ∧ f = f1) noX 0 0 := by
  subst hy
  exact c_isBusy hz hg hn hnl

set_option maxRecDepth 100000 in
set_option maxHeartbeats 4000000 in
theorem c_order {l : Launch} {κ : Kx} {xm : Nat} {b : Nat → Nat} {M : MS} {L : List Nat} {f0 f : Nat → va_E} (hz : ZR κ xm b M L f0 f) {x y z : Int32} {nh nl ng ns : Nat} (hw : wfM M nh nl ng ns) : PM l κ yX6_order wsX6_order ({ frames := 1, cells := 0, slots := 0, locals := 23 } : Room) [.ref xm, .int x, .int y, .int z] L f (fun v L1 f1 => v = none ∧ L = L1 ∧ ZR κ xm b (orderF M nl x y z) L f f1) noX 0 0 := by
  refine PM.mk (cc := cX6_order) (maxL := 4) (ret := none) (by decide) rfl (Nat.le_of_ble_eq_true rfl) ?_
  intro p e s m args below meth c ls hx hb hml hr hlk hnm hown hts ht hh hl
  have hl : lv_has ls 4 [(0, .ref xm), (1, .int x), (2, .int y), (3, .int z)] := hl
  have S : CallFix p m c cX6_order 4 s args wsX6_order RX6 := ⟨hx, hb, hml, hown, hts⟩
  have hin : ∀ w ∈ wsX60, w ∈ wsX6_order := by decide +kernel
  have hz := hz.self
  obtain ⟨⟨n15, n16, n17, n18⟩, ⟨l15, l16, l17, l18⟩, hhome, hcrew⟩ := id hw
  refine lv_iload_n hx hb dX6_order_0 rfl (lv_at hl 1 rfl) ?_
  refine lv_aload_n hx hb dX6_order_1 rfl (lv_at hl 0 rfl) ?_
  refine r_get S hh hz hin 16 (by decide) rfl rfl (by decide +kernel) dX6_order_2 ?_
  refine k_callS0 (As := [.int x, .int (M 16 0)]) (c_is (x := x) (y := (M 16 0)) (L := L)) S hh (va_cwS 2 hts gX6_order_X6_is rfl rfl rfl (by decide +kernel) ⟨(Nat.le_of_ble_eq_true rfl), (Nat.le_of_ble_eq_true rfl)⟩) rfl hl.1 rfl (Nat.le_of_ble_eq_true rfl) dX6_order_5 ⟨(Nat.le_of_ble_eq_true rfl), (Nat.le_of_ble_eq_true rfl)⟩ (fun v L1 f1 H locs hp hh => ?_)
  obtain ⟨rfl, hL1, hf1⟩ := hp
  subst hL1; subst hf1
  refine lv_if_eq (tgt := 33) hx hb dX6_order_8 (by decide) (fun c8 => ?_) (fun c8 => ?_)
  · refine lv_aload_n hx hb dX6_order_33 rfl (lv_at hl 0 rfl) ?_
    refine lv_iconst (v := 1) hx hb dX6_order_34 (by decide) ?_
    refine r_put S hh hz hin 21 (by decide) rfl rfl rfl (by decide +kernel) dX6_order_35 (fun f9 H locs hh hz => ?_)
    exact k_vret hx hb hr hlk hh dX6_order_38 (Nat.le_of_ble_eq_true rfl) (Nat.le_of_ble_eq_true rfl) (by
  have hT : orderT M nl x y z = 1 := by (unfold orderT; (repeat' split); all_goals first | rfl | contradiction)
  exact ⟨rfl, rfl, hz.cast (by unfold orderF; rw [if_neg (by rw [hT]; decide)]; rw [hT]; try rfl)⟩)
  · obtain ⟨hx1, hx2⟩ := is_ix n16 (by omega) c8
    refine lv_iload_n hx hb dX6_order_11 rfl (lv_at hl 2 rfl) ?_
    refine lv_aload_n hx hb dX6_order_12 rfl (lv_at hl 0 rfl) ?_
    refine r_get S hh hz hin 17 (by decide) rfl rfl (by decide +kernel) dX6_order_13 ?_
    refine k_callS0 (As := [.int y, .int (M 17 0)]) (c_is (x := y) (y := (M 17 0)) (L := L)) S hh (va_cwS 2 hts gX6_order_X6_is rfl rfl rfl (by decide +kernel) ⟨(Nat.le_of_ble_eq_true rfl), (Nat.le_of_ble_eq_true rfl)⟩) rfl hl.1 rfl (Nat.le_of_ble_eq_true rfl) dX6_order_16 ⟨(Nat.le_of_ble_eq_true rfl), (Nat.le_of_ble_eq_true rfl)⟩ (fun v L1 f1 H locs hp hh => ?_)
    obtain ⟨rfl, hL1, hf1⟩ := hp
    subst hL1; subst hf1
    refine lv_if_eq (tgt := 33) hx hb dX6_order_19 (by decide) (fun c19 => ?_) (fun c19 => ?_)
    · refine lv_aload_n hx hb dX6_order_33 rfl (lv_at hl 0 rfl) ?_
      refine lv_iconst (v := 1) hx hb dX6_order_34 (by decide) ?_
      refine r_put S hh hz hin 21 (by decide) rfl rfl rfl (by decide +kernel) dX6_order_35 (fun f9 H locs hh hz => ?_)
      exact k_vret hx hb hr hlk hh dX6_order_38 (Nat.le_of_ble_eq_true rfl) (Nat.le_of_ble_eq_true rfl) (by
  have hT : orderT M nl x y z = 1 := by (unfold orderT; (repeat' split); all_goals first | rfl | contradiction)
  exact ⟨rfl, rfl, hz.cast (by unfold orderF; rw [if_neg (by rw [hT]; decide)]; rw [hT]; try rfl)⟩)
    · obtain ⟨hy1, hy2⟩ := is_ix n17 (by omega) c19
      refine lv_iload_n hx hb dX6_order_22 rfl (lv_at hl 3 rfl) ?_
      refine lv_aload_n hx hb dX6_order_23 rfl (lv_at hl 0 rfl) ?_
      refine r_get S hh hz hin 18 (by decide) rfl rfl (by decide +kernel) dX6_order_24 ?_
      refine k_callS0 (As := [.int z, .int (M 18 0)]) (c_is (x := z) (y := (M 18 0)) (L := L)) S hh (va_cwS 2 hts gX6_order_X6_is rfl rfl rfl (by decide +kernel) ⟨(Nat.le_of_ble_eq_true rfl), (Nat.le_of_ble_eq_true rfl)⟩) rfl hl.1 rfl (Nat.le_of_ble_eq_true rfl) dX6_order_27 ⟨(Nat.le_of_ble_eq_true rfl), (Nat.le_of_ble_eq_true rfl)⟩ (fun v L1 f1 H locs hp hh => ?_)
      obtain ⟨rfl, hL1, hf1⟩ := hp
      subst hL1; subst hf1
      refine lv_if_ne (tgt := 39) hx hb dX6_order_30 (by decide) (fun c30 => ?_) (fun c30 => ?_)
      · obtain ⟨hz1, hz2⟩ := is_ix n18 (by omega) c30
        refine lv_aload_n hx hb dX6_order_39 rfl (lv_at hl 0 rfl) ?_
        refine lv_aload_n hx hb dX6_order_40 rfl (lv_at hl 0 rfl) ?_
        refine r_get S hh hz hin 6 (by decide) rfl rfl (by decide +kernel) dX6_order_41 ?_
        refine lv_iload_n hx hb dX6_order_44 rfl (lv_at hl 1 rfl) ?_
        refine r_ald (k := 6) (i := (nT x)) S hh hz (by decide) hx1 (show nT x < 6 by omega) dX6_order_45 ?_
        refine lv_iconst (v := (-1)) hx hb dX6_order_46 (by decide) ?_
        refine lv_icmp_ne (tgt := 68) hx hb dX6_order_47 (by decide) (fun c47 => ?_) (fun c47 => ?_)
        · refine lv_iconst (v := 2) hx hb dX6_order_68 (by decide) ?_
          refine lv_goto (tgt := 73) hx hb dX6_order_69 (by decide) ?_
          refine r_put S hh hz hin 21 (by decide) rfl rfl rfl (by decide +kernel) dX6_order_73 (fun f9 H locs hh hz => ?_)
          refine lv_aload_n hx hb dX6_order_76 rfl (lv_at hl 0 rfl) ?_
          refine r_get S hh hz hin 21 (by decide) rfl rfl (by decide +kernel) dX6_order_77 ?_
          refine lv_if_ne (tgt := 97) hx hb dX6_order_80 (by decide) (fun _ => ?_) (fun c => absurd (show (2 : Int32) = (0 : Int32) from c) (by decide))
          exact k_vret hx hb hr hlk hh dX6_order_97 (Nat.le_of_ble_eq_true rfl) (Nat.le_of_ble_eq_true rfl) (by
  have hT : orderT M nl x y z = 2 := by (unfold orderT; (repeat' split); all_goals first | rfl | contradiction)
  exact ⟨rfl, rfl, hz.cast (by unfold orderF; rw [if_neg (by rw [hT]; decide)]; rw [hT]; try rfl)⟩)
        · refine lv_aload_n hx hb dX6_order_50 rfl (lv_at hl 0 rfl) ?_
          refine lv_iload_n hx hb dX6_order_51 rfl (lv_at hl 2 rfl) ?_
          refine k_callV0 (As := [.int y]) (c_isBusyY hy1 hz (nl := nl) (show nT y < 6 by omega) n16 l16) S hh (cwV 1 hts gX6_order_X6_isBusy rfl rfl rfl (by decide +kernel) ⟨(Nat.le_of_ble_eq_true rfl), (Nat.le_of_ble_eq_true rfl)⟩) hz.1.1 hz.1.2 (q := (RX6, TX6, 22)) rfl rfl rfl hl.1 rfl (Nat.le_of_ble_eq_true rfl) dX6_order_52 ⟨(Nat.le_of_ble_eq_true rfl), (Nat.le_of_ble_eq_true rfl)⟩ (fun v L1 f1 H locs hp hh => ?_)
          obtain ⟨rfl, hL1, hf1⟩ := hp
          subst hL1; subst hf1
          refine lv_if_ne (tgt := 68) hx hb dX6_order_55 (by decide) (fun c55 => ?_) (fun c55 => ?_)
          · refine lv_iconst (v := 2) hx hb dX6_order_68 (by decide) ?_
            refine lv_goto (tgt := 73) hx hb dX6_order_69 (by decide) ?_
            refine r_put S hh hz hin 21 (by decide) rfl rfl rfl (by decide +kernel) dX6_order_73 (fun f9 H locs hh hz => ?_)
            refine lv_aload_n hx hb dX6_order_76 rfl (lv_at hl 0 rfl) ?_
            refine r_get S hh hz hin 21 (by decide) rfl rfl (by decide +kernel) dX6_order_77 ?_
            refine lv_if_ne (tgt := 97) hx hb dX6_order_80 (by decide) (fun _ => ?_) (fun c => absurd (show (2 : Int32) = (0 : Int32) from c) (by decide))
            exact k_vret hx hb hr hlk hh dX6_order_97 (Nat.le_of_ble_eq_true rfl) (Nat.le_of_ble_eq_true rfl) (by
  have hT : orderT M nl x y z = 2 := by (unfold orderT; (repeat' split); all_goals first | rfl | contradiction)
  exact ⟨rfl, rfl, hz.cast (by unfold orderF; rw [if_neg (by rw [hT]; decide)]; rw [hT]; try rfl)⟩)
          · refine lv_aload_n hx hb dX6_order_58 rfl (lv_at hl 0 rfl) ?_
            refine r_get S hh hz hin 14 (by decide) rfl rfl (by decide +kernel) dX6_order_59 ?_
            refine lv_iload_n hx hb dX6_order_62 rfl (lv_at hl 3 rfl) ?_
            refine r_ald (k := 14) (i := (nT z)) S hh hz (by decide) hz1 (show nT z < 600 by omega) dX6_order_63 ?_
            refine lv_iconst (v := 1) hx hb dX6_order_64 (by decide) ?_
            refine lv_icmp_le (tgt := 72) hx hb dX6_order_65 (by decide) (fun c65 => ?_) (fun c65 => ?_)
            · refine lv_iconst (v := 0) hx hb dX6_order_72 (by decide) ?_
              refine r_put S hh hz hin 21 (by decide) rfl rfl rfl (by decide +kernel) dX6_order_73 (fun f9 H locs hh hz => ?_)
              refine lv_aload_n hx hb dX6_order_76 rfl (lv_at hl 0 rfl) ?_
              refine r_get S hh hz hin 21 (by decide) rfl rfl (by decide +kernel) dX6_order_77 ?_
              refine lv_if_ne (tgt := 97) hx hb dX6_order_80 (by decide) (fun c => absurd (show ¬ (0 : Int32) = (0 : Int32) from c) (by decide)) (fun _ => ?_)
              refine lv_aload_n hx hb dX6_order_83 rfl (lv_at hl 0 rfl) ?_
              refine r_get S hh hz hin 6 (by decide) rfl rfl (by decide +kernel) dX6_order_84 ?_
              refine lv_iload_n hx hb dX6_order_87 rfl (lv_at hl 1 rfl) ?_
              refine lv_iload_n hx hb dX6_order_88 rfl (lv_at hl 2 rfl) ?_
              refine r_ast (k := 6) (i := (nT x)) S hh hz (by decide) hx1 (show nT x < 6 by omega) dX6_order_89 (fun f9 H locs hh hz => ?_)
              refine lv_aload_n hx hb dX6_order_90 rfl (lv_at hl 0 rfl) ?_
              refine r_get S hh hz hin 7 (by decide) rfl rfl (by decide +kernel) dX6_order_91 ?_
              refine lv_iload_n hx hb dX6_order_94 rfl (lv_at hl 1 rfl) ?_
              refine lv_iload_n hx hb dX6_order_95 rfl (lv_at hl 3 rfl) ?_
              refine r_ast (k := 7) (i := (nT x)) S hh hz (by decide) hx1 (show nT x < 6 by omega) dX6_order_96 (fun f9 H locs hh hz => ?_)
              exact k_vret hx hb hr hlk hh dX6_order_97 (Nat.le_of_ble_eq_true rfl) (Nat.le_of_ble_eq_true rfl) (by
  have hT : orderT M nl x y z = 0 := by (unfold orderT; (repeat' split); all_goals first | rfl | contradiction)
  exact ⟨rfl, rfl, hz.cast (by unfold orderF; rw [if_pos hT]; try rfl)⟩)
            · refine lv_iconst (v := 2) hx hb dX6_order_68 (by decide) ?_
              refine lv_goto (tgt := 73) hx hb dX6_order_69 (by decide) ?_
              refine r_put S hh hz hin 21 (by decide) rfl rfl rfl (by decide +kernel) dX6_order_73 (fun f9 H locs hh hz => ?_)
              refine lv_aload_n hx hb dX6_order_76 rfl (lv_at hl 0 rfl) ?_
              refine r_get S hh hz hin 21 (by decide) rfl rfl (by decide +kernel) dX6_order_77 ?_
              refine lv_if_ne (tgt := 97) hx hb dX6_order_80 (by decide) (fun _ => ?_) (fun c => absurd (show (2 : Int32) = (0 : Int32) from c) (by decide))
              exact k_vret hx hb hr hlk hh dX6_order_97 (Nat.le_of_ble_eq_true rfl) (Nat.le_of_ble_eq_true rfl) (by
  have hT : orderT M nl x y z = 2 := by (unfold orderT; (repeat' split); all_goals first | rfl | contradiction)
  exact ⟨rfl, rfl, hz.cast (by unfold orderF; rw [if_neg (by rw [hT]; decide)]; rw [hT]; try rfl)⟩)
      · refine lv_aload_n hx hb dX6_order_33 rfl (lv_at hl 0 rfl) ?_
        refine lv_iconst (v := 1) hx hb dX6_order_34 (by decide) ?_
        refine r_put S hh hz hin 21 (by decide) rfl rfl rfl (by decide +kernel) dX6_order_35 (fun f9 H locs hh hz => ?_)
        exact k_vret hx hb hr hlk hh dX6_order_38 (Nat.le_of_ble_eq_true rfl) (Nat.le_of_ble_eq_true rfl) (by
  have hT : orderT M nl x y z = 1 := by (unfold orderT; (repeat' split); all_goals first | rfl | contradiction)
  exact ⟨rfl, rfl, hz.cast (by unfold orderF; rw [if_neg (by rw [hT]; decide)]; rw [hT]; try rfl)⟩)

set_option maxRecDepth 100000 in
set_option maxHeartbeats 4000000 in
theorem c_shift {l : Launch} {κ : Kx} {xm : Nat} {b : Nat → Nat} {M : MS} {L : List Nat} {f0 f : Nat → va_E} (hz : ZR κ xm b M L f0 f) {x y z : Int32} {nh nl ng ns : Nat} (hw : wfM M nh nl ng ns) : PM l κ yX6_shift wsX6_shift ({ frames := 1, cells := 0, slots := 0, locals := 21 } : Room) [.ref xm, .int x, .int y] L f (fun v L1 f1 => v = none ∧ L = L1 ∧ ZR κ xm b (shiftF M x y) L f f1) noX 0 0 := by
  refine PM.mk (cc := cX6_shift) (maxL := 3) (ret := none) (by decide) rfl (Nat.le_of_ble_eq_true rfl) ?_
  intro p e s m args below meth c ls hx hb hml hr hlk hnm hown hts ht hh hl
  have hl : lv_has ls 3 [(0, .ref xm), (1, .int x), (2, .int y)] := hl
  have S : CallFix p m c cX6_shift 3 s args wsX6_shift RX6 := ⟨hx, hb, hml, hown, hts⟩
  have hin : ∀ w ∈ wsX60, w ∈ wsX6_shift := by decide +kernel
  have hz := hz.self
  obtain ⟨⟨n15, n16, n17, n18⟩, ⟨l15, l16, l17, l18⟩, hhome, hcrew⟩ := id hw
  refine lv_aload_n hx hb dX6_shift_0 rfl (lv_at hl 0 rfl) ?_
  refine lv_iload_n hx hb dX6_shift_1 rfl (lv_at hl 1 rfl) ?_
  refine lv_aload_n hx hb dX6_shift_2 rfl (lv_at hl 0 rfl) ?_
  refine r_get S hh hz hin 16 (by decide) rfl rfl (by decide +kernel) dX6_shift_3 ?_
  refine k_callS0 (As := [.int x, .int (M 16 0)]) (c_is (x := x) (y := (M 16 0)) (L := L)) S hh (va_cwS 2 hts gX6_shift_X6_is rfl rfl rfl (by decide +kernel) ⟨(Nat.le_of_ble_eq_true rfl), (Nat.le_of_ble_eq_true rfl)⟩) rfl hl.1 rfl (Nat.le_of_ble_eq_true rfl) dX6_shift_6 ⟨(Nat.le_of_ble_eq_true rfl), (Nat.le_of_ble_eq_true rfl)⟩ (fun v L1 f1 H locs hp hh => ?_)
  obtain ⟨rfl, hL1, hf1⟩ := hp
  subst hL1; subst hf1
  refine lv_if_eq (tgt := 23) hx hb dX6_shift_9 (by decide) (fun c9 => ?_) (fun c9 => ?_)
  · refine lv_iconst (v := 1) hx hb dX6_shift_23 (by decide) ?_
    refine lv_goto (tgt := 42) hx hb dX6_shift_24 (by decide) ?_
    refine r_put S hh hz hin 21 (by decide) rfl rfl rfl (by decide +kernel) dX6_shift_42 (fun f9 H locs hh hz => ?_)
    refine lv_aload_n hx hb dX6_shift_45 rfl (lv_at hl 0 rfl) ?_
    refine r_get S hh hz hin 21 (by decide) rfl rfl (by decide +kernel) dX6_shift_46 ?_
    refine lv_if_ne (tgt := 59) hx hb dX6_shift_49 (by decide) (fun _ => ?_) (fun c => absurd (show (1 : Int32) = (0 : Int32) from c) (by decide))
    exact k_vret hx hb hr hlk hh dX6_shift_59 (Nat.le_of_ble_eq_true rfl) (Nat.le_of_ble_eq_true rfl) (by
  have hT : shiftT M x y = 1 := by (unfold shiftT; (repeat' split); all_goals first | rfl | contradiction)
  exact ⟨rfl, rfl, hz.cast (by unfold shiftF; rw [if_neg (by rw [hT]; decide)]; rw [hT]; try rfl)⟩)
  · obtain ⟨hx1, hx2⟩ := is_ix n16 (by omega) c9
    refine lv_iload_n hx hb dX6_shift_12 rfl (lv_at hl 2 rfl) ?_
    refine lv_aload_n hx hb dX6_shift_13 rfl (lv_at hl 0 rfl) ?_
    refine r_get S hh hz hin 15 (by decide) rfl rfl (by decide +kernel) dX6_shift_14 ?_
    refine k_callS0 (As := [.int y, .int (M 15 0)]) (c_is (x := y) (y := (M 15 0)) (L := L)) S hh (va_cwS 2 hts gX6_shift_X6_is rfl rfl rfl (by decide +kernel) ⟨(Nat.le_of_ble_eq_true rfl), (Nat.le_of_ble_eq_true rfl)⟩) rfl hl.1 rfl (Nat.le_of_ble_eq_true rfl) dX6_shift_17 ⟨(Nat.le_of_ble_eq_true rfl), (Nat.le_of_ble_eq_true rfl)⟩ (fun v L1 f1 H locs hp hh => ?_)
    obtain ⟨rfl, hL1, hf1⟩ := hp
    subst hL1; subst hf1
    refine lv_if_ne (tgt := 27) hx hb dX6_shift_20 (by decide) (fun c20 => ?_) (fun c20 => ?_)
    · obtain ⟨hy1, hy2⟩ := is_ix n15 (by omega) c20
      refine lv_aload_n hx hb dX6_shift_27 rfl (lv_at hl 0 rfl) ?_
      refine r_get S hh hz hin 6 (by decide) rfl rfl (by decide +kernel) dX6_shift_28 ?_
      refine lv_iload_n hx hb dX6_shift_31 rfl (lv_at hl 1 rfl) ?_
      refine r_ald (k := 6) (i := (nT x)) S hh hz (by decide) hx1 (show nT x < 6 by omega) dX6_shift_32 ?_
      refine lv_iconst (v := (-1)) hx hb dX6_shift_33 (by decide) ?_
      refine lv_icmp_eq (tgt := 41) hx hb dX6_shift_34 (by decide) (fun c34 => ?_) (fun c34 => ?_)
      · refine lv_iconst (v := 0) hx hb dX6_shift_41 (by decide) ?_
        refine r_put S hh hz hin 21 (by decide) rfl rfl rfl (by decide +kernel) dX6_shift_42 (fun f9 H locs hh hz => ?_)
        refine lv_aload_n hx hb dX6_shift_45 rfl (lv_at hl 0 rfl) ?_
        refine r_get S hh hz hin 21 (by decide) rfl rfl (by decide +kernel) dX6_shift_46 ?_
        refine lv_if_ne (tgt := 59) hx hb dX6_shift_49 (by decide) (fun c => absurd (show ¬ (0 : Int32) = (0 : Int32) from c) (by decide)) (fun _ => ?_)
        refine lv_aload_n hx hb dX6_shift_52 rfl (lv_at hl 0 rfl) ?_
        refine r_get S hh hz hin 5 (by decide) rfl rfl (by decide +kernel) dX6_shift_53 ?_
        refine lv_iload_n hx hb dX6_shift_56 rfl (lv_at hl 1 rfl) ?_
        refine lv_iload_n hx hb dX6_shift_57 rfl (lv_at hl 2 rfl) ?_
        refine r_ast (k := 5) (i := (nT x)) S hh hz (by decide) hx1 (show nT x < 6 by omega) dX6_shift_58 (fun f9 H locs hh hz => ?_)
        exact k_vret hx hb hr hlk hh dX6_shift_59 (Nat.le_of_ble_eq_true rfl) (Nat.le_of_ble_eq_true rfl) (by
  have hT : shiftT M x y = 0 := by (unfold shiftT; (repeat' split); all_goals first | rfl | contradiction)
  exact ⟨rfl, rfl, hz.cast (by unfold shiftF; rw [if_pos hT]; try rfl)⟩)
      · refine lv_iconst (v := 2) hx hb dX6_shift_37 (by decide) ?_
        refine lv_goto (tgt := 42) hx hb dX6_shift_38 (by decide) ?_
        refine r_put S hh hz hin 21 (by decide) rfl rfl rfl (by decide +kernel) dX6_shift_42 (fun f9 H locs hh hz => ?_)
        refine lv_aload_n hx hb dX6_shift_45 rfl (lv_at hl 0 rfl) ?_
        refine r_get S hh hz hin 21 (by decide) rfl rfl (by decide +kernel) dX6_shift_46 ?_
        refine lv_if_ne (tgt := 59) hx hb dX6_shift_49 (by decide) (fun _ => ?_) (fun c => absurd (show (2 : Int32) = (0 : Int32) from c) (by decide))
        exact k_vret hx hb hr hlk hh dX6_shift_59 (Nat.le_of_ble_eq_true rfl) (Nat.le_of_ble_eq_true rfl) (by
  have hT : shiftT M x y = 2 := by (unfold shiftT; (repeat' split); all_goals first | rfl | contradiction)
  exact ⟨rfl, rfl, hz.cast (by unfold shiftF; rw [if_neg (by rw [hT]; decide)]; rw [hT]; try rfl)⟩)
    · refine lv_iconst (v := 1) hx hb dX6_shift_23 (by decide) ?_
      refine lv_goto (tgt := 42) hx hb dX6_shift_24 (by decide) ?_
      refine r_put S hh hz hin 21 (by decide) rfl rfl rfl (by decide +kernel) dX6_shift_42 (fun f9 H locs hh hz => ?_)
      refine lv_aload_n hx hb dX6_shift_45 rfl (lv_at hl 0 rfl) ?_
      refine r_get S hh hz hin 21 (by decide) rfl rfl (by decide +kernel) dX6_shift_46 ?_
      refine lv_if_ne (tgt := 59) hx hb dX6_shift_49 (by decide) (fun _ => ?_) (fun c => absurd (show (1 : Int32) = (0 : Int32) from c) (by decide))
      exact k_vret hx hb hr hlk hh dX6_shift_59 (Nat.le_of_ble_eq_true rfl) (Nat.le_of_ble_eq_true rfl) (by
  have hT : shiftT M x y = 1 := by (unfold shiftT; (repeat' split); all_goals first | rfl | contradiction)
  exact ⟨rfl, rfl, hz.cast (by unfold shiftF; rw [if_neg (by rw [hT]; decide)]; rw [hT]; try rfl)⟩)

set_option maxRecDepth 100000 in
set_option maxHeartbeats 4000000 in
theorem c_sweep {l : Launch} {κ : Kx} {xm : Nat} {b : Nat → Nat} {M : MS} {L : List Nat} {f0 f : Nat → va_E} (hz : ZR κ xm b M L f0 f) {x y z : Int32} {nh nl ng ns : Nat} (hw : wfM M nh nl ng ns) : PM l κ yX6_sweep wsX6_sweep ({ frames := 1, cells := 0, slots := 0, locals := 23 } : Room) [.ref xm, .int x, .int y] L f (fun v L1 f1 => v = some (.int (if sweepT M nl x y = 0 then M 3 (nT x) else 0)) ∧ L = L1 ∧ ZR κ xm b (sweepF M nl x y) L f f1) noX 0 0 := by
  refine PM.mk (cc := cX6_sweep) (maxL := 4) (ret := (some .int)) (by decide) rfl (Nat.le_of_ble_eq_true rfl) ?_
  intro p e s m args below meth c ls hx hb hml hr hlk hnm hown hts ht hh hl
  have hl : lv_has ls 4 [(0, .ref xm), (1, .int x), (2, .int y)] := hl
  have S : CallFix p m c cX6_sweep 4 s args wsX6_sweep RX6 := ⟨hx, hb, hml, hown, hts⟩
  have hin : ∀ w ∈ wsX60, w ∈ wsX6_sweep := by decide +kernel
  have hz := hz.self
  obtain ⟨⟨n15, n16, n17, n18⟩, ⟨l15, l16, l17, l18⟩, hhome, hcrew⟩ := id hw
  refine lv_iload_n hx hb dX6_sweep_0 rfl (lv_at hl 1 rfl) ?_
  refine lv_aload_n hx hb dX6_sweep_1 rfl (lv_at hl 0 rfl) ?_
  refine r_get S hh hz hin 16 (by decide) rfl rfl (by decide +kernel) dX6_sweep_2 ?_
  refine k_callS0 (As := [.int x, .int (M 16 0)]) (c_is (x := x) (y := (M 16 0)) (L := L)) S hh (va_cwS 2 hts gX6_sweep_X6_is rfl rfl rfl (by decide +kernel) ⟨(Nat.le_of_ble_eq_true rfl), (Nat.le_of_ble_eq_true rfl)⟩) rfl hl.1 rfl (Nat.le_of_ble_eq_true rfl) dX6_sweep_5 ⟨(Nat.le_of_ble_eq_true rfl), (Nat.le_of_ble_eq_true rfl)⟩ (fun v L1 f1 H locs hp hh => ?_)
  obtain ⟨rfl, hL1, hf1⟩ := hp
  subst hL1; subst hf1
  refine lv_if_eq (tgt := 22) hx hb dX6_sweep_8 (by decide) (fun c8 => ?_) (fun c8 => ?_)
  · refine lv_aload_n hx hb dX6_sweep_22 rfl (lv_at hl 0 rfl) ?_
    refine lv_iconst (v := 1) hx hb dX6_sweep_23 (by decide) ?_
    refine r_put S hh hz hin 21 (by decide) rfl rfl rfl (by decide +kernel) dX6_sweep_24 (fun f9 H locs hh hz => ?_)
    refine lv_iconst (v := 0) hx hb dX6_sweep_27 (by decide) ?_
    exact k_iret hx hb hr hlk hh dX6_sweep_28 (Nat.le_of_ble_eq_true rfl) (Nat.le_of_ble_eq_true rfl) (by
  have hT : sweepT M nl x y = 1 := by (unfold sweepT; (repeat' split); all_goals first | rfl | contradiction)
  exact ⟨congrArg (fun r => some (Value.int r)) (by rw [if_neg (by rw [hT]; decide)]; try rfl), rfl, hz.cast (by unfold sweepF; rw [if_neg (by rw [hT]; decide)]; rw [hT]; try rfl)⟩)
  · obtain ⟨hx1, hx2⟩ := is_ix n16 (by omega) c8
    refine lv_iload_n hx hb dX6_sweep_11 rfl (lv_at hl 2 rfl) ?_
    refine lv_aload_n hx hb dX6_sweep_12 rfl (lv_at hl 0 rfl) ?_
    refine r_get S hh hz hin 17 (by decide) rfl rfl (by decide +kernel) dX6_sweep_13 ?_
    refine k_callS0 (As := [.int y, .int (M 17 0)]) (c_is (x := y) (y := (M 17 0)) (L := L)) S hh (va_cwS 2 hts gX6_sweep_X6_is rfl rfl rfl (by decide +kernel) ⟨(Nat.le_of_ble_eq_true rfl), (Nat.le_of_ble_eq_true rfl)⟩) rfl hl.1 rfl (Nat.le_of_ble_eq_true rfl) dX6_sweep_16 ⟨(Nat.le_of_ble_eq_true rfl), (Nat.le_of_ble_eq_true rfl)⟩ (fun v L1 f1 H locs hp hh => ?_)
    obtain ⟨rfl, hL1, hf1⟩ := hp
    subst hL1; subst hf1
    refine lv_if_ne (tgt := 29) hx hb dX6_sweep_19 (by decide) (fun c19 => ?_) (fun c19 => ?_)
    · obtain ⟨hy1, hy2⟩ := is_ix n17 (by omega) c19
      refine lv_aload_n hx hb dX6_sweep_29 rfl (lv_at hl 0 rfl) ?_
      refine lv_aload_n hx hb dX6_sweep_30 rfl (lv_at hl 0 rfl) ?_
      refine r_get S hh hz hin 6 (by decide) rfl rfl (by decide +kernel) dX6_sweep_31 ?_
      refine lv_iload_n hx hb dX6_sweep_34 rfl (lv_at hl 1 rfl) ?_
      refine r_ald (k := 6) (i := (nT x)) S hh hz (by decide) hx1 (show nT x < 6 by omega) dX6_sweep_35 ?_
      refine lv_iconst (v := (-1)) hx hb dX6_sweep_36 (by decide) ?_
      refine lv_icmp_ne (tgt := 48) hx hb dX6_sweep_37 (by decide) (fun c37 => ?_) (fun c37 => ?_)
      · refine lv_iconst (v := 2) hx hb dX6_sweep_48 (by decide) ?_
        refine lv_goto (tgt := 53) hx hb dX6_sweep_49 (by decide) ?_
        refine r_put S hh hz hin 21 (by decide) rfl rfl rfl (by decide +kernel) dX6_sweep_53 (fun f9 H locs hh hz => ?_)
        refine lv_aload_n hx hb dX6_sweep_56 rfl (lv_at hl 0 rfl) ?_
        refine r_get S hh hz hin 21 (by decide) rfl rfl (by decide +kernel) dX6_sweep_57 ?_
        refine lv_if_eq (tgt := 65) hx hb dX6_sweep_60 (by decide) (fun c => absurd (show (2 : Int32) = (0 : Int32) from c) (by decide)) (fun _ => ?_)
        refine lv_iconst (v := 0) hx hb dX6_sweep_63 (by decide) ?_
        exact k_iret hx hb hr hlk hh dX6_sweep_64 (Nat.le_of_ble_eq_true rfl) (Nat.le_of_ble_eq_true rfl) (by
  have hT : sweepT M nl x y = 2 := by (unfold sweepT; (repeat' split); all_goals first | rfl | contradiction)
  exact ⟨congrArg (fun r => some (Value.int r)) (by rw [if_neg (by rw [hT]; decide)]; try rfl), rfl, hz.cast (by unfold sweepF; rw [if_neg (by rw [hT]; decide)]; rw [hT]; try rfl)⟩)
      · refine lv_aload_n hx hb dX6_sweep_40 rfl (lv_at hl 0 rfl) ?_
        refine lv_iload_n hx hb dX6_sweep_41 rfl (lv_at hl 2 rfl) ?_
        refine k_callV0 (As := [.int y]) (c_isBusyY hy1 hz (nl := nl) (show nT y < 6 by omega) n16 l16) S hh (cwV 1 hts gX6_sweep_X6_isBusy rfl rfl rfl (by decide +kernel) ⟨(Nat.le_of_ble_eq_true rfl), (Nat.le_of_ble_eq_true rfl)⟩) hz.1.1 hz.1.2 (q := (RX6, TX6, 22)) rfl rfl rfl hl.1 rfl (Nat.le_of_ble_eq_true rfl) dX6_sweep_42 ⟨(Nat.le_of_ble_eq_true rfl), (Nat.le_of_ble_eq_true rfl)⟩ (fun v L1 f1 H locs hp hh => ?_)
        obtain ⟨rfl, hL1, hf1⟩ := hp
        subst hL1; subst hf1
        refine lv_if_eq (tgt := 52) hx hb dX6_sweep_45 (by decide) (fun c45 => ?_) (fun c45 => ?_)
        · refine lv_iconst (v := 0) hx hb dX6_sweep_52 (by decide) ?_
          refine r_put S hh hz hin 21 (by decide) rfl rfl rfl (by decide +kernel) dX6_sweep_53 (fun f9 H locs hh hz => ?_)
          refine lv_aload_n hx hb dX6_sweep_56 rfl (lv_at hl 0 rfl) ?_
          refine r_get S hh hz hin 21 (by decide) rfl rfl (by decide +kernel) dX6_sweep_57 ?_
          refine lv_if_eq (tgt := 65) hx hb dX6_sweep_60 (by decide) (fun _ => ?_) (fun c => absurd (show ¬ (0 : Int32) = (0 : Int32) from c) (by decide))
          refine lv_aload_n hx hb dX6_sweep_65 rfl (lv_at hl 0 rfl) ?_
          refine r_get S hh hz hin 3 (by decide) rfl rfl (by decide +kernel) dX6_sweep_66 ?_
          refine lv_iload_n hx hb dX6_sweep_69 rfl (lv_at hl 1 rfl) ?_
          refine r_ald (k := 3) (i := (nT x)) S hh hz (by decide) hx1 (show nT x < 6 by omega) dX6_sweep_70 ?_
          refine lv_topi (fun x71 e71 => ?_)
          refine lv_istore_n (lv' := [(3, .int x71), (0, .ref xm), (1, .int x), (2, .int y)]) hx hb dX6_sweep_71 rfl hl (by decide) rfl (fun ls hl => ?_)
          refine lv_aload_n hx hb dX6_sweep_72 rfl (lv_at hl 1 rfl) ?_
          refine r_get S hh hz hin 0 (by decide) rfl rfl (by decide +kernel) dX6_sweep_73 ?_
          refine lv_aload_n hx hb dX6_sweep_76 rfl (lv_at hl 1 rfl) ?_
          refine r_get S hh hz hin 5 (by decide) rfl rfl (by decide +kernel) dX6_sweep_77 ?_
          refine lv_iload_n hx hb dX6_sweep_80 rfl (lv_at hl 2 rfl) ?_
          refine r_ald (k := 5) (i := (nT x)) S hh hz (by decide) hx1 (show nT x < 6 by omega) dX6_sweep_81 ?_
          refine lv_dup2_11 hx hb dX6_sweep_82 rfl rfl ?_
          refine r_ald (k := 0) (i := (nT (M 5 (nT x)))) S hh hz (by decide) (hhome _).1 (hhome _).2 dX6_sweep_83 ?_
          refine lv_iload_n hx hb dX6_sweep_84 rfl (lv_at hl 0 rfl) ?_
          refine lv_iadd hx hb dX6_sweep_85 ?_
          refine r_ast (k := 0) (i := (nT (M 5 (nT x)))) S hh hz (by decide) (hhome _).1 (hhome _).2 dX6_sweep_86 (fun f9 H locs hh hz => ?_)
          refine lv_aload_n hx hb dX6_sweep_87 rfl (lv_at hl 1 rfl) ?_
          refine r_get S hh hz hin 3 (by decide) rfl rfl (by decide +kernel) dX6_sweep_88 ?_
          refine lv_iload_n hx hb dX6_sweep_91 rfl (lv_at hl 2 rfl) ?_
          refine lv_iconst (v := 0) hx hb dX6_sweep_92 (by decide) ?_
          refine r_ast (k := 3) (i := (nT x)) S hh hz (by decide) hx1 (show nT x < 6 by omega) dX6_sweep_93 (fun f9 H locs hh hz => ?_)
          refine lv_aload_n hx hb dX6_sweep_94 rfl (lv_at hl 1 rfl) ?_
          refine r_get S hh hz hin 11 (by decide) rfl rfl (by decide +kernel) dX6_sweep_95 ?_
          refine lv_iload_n hx hb dX6_sweep_98 rfl (lv_at hl 3 rfl) ?_
          refine lv_bipush (v := 8) hx hb dX6_sweep_99 (by decide) ?_
          refine r_ast (k := 11) (i := (nT y)) S hh hz (by decide) hy1 (show nT y < 6 by omega) dX6_sweep_101 (fun f9 H locs hh hz => ?_)
          refine lv_aload_n hx hb dX6_sweep_102 rfl (lv_at hl 1 rfl) ?_
          refine r_get S hh hz hin 10 (by decide) rfl rfl (by decide +kernel) dX6_sweep_103 ?_
          refine lv_iload_n hx hb dX6_sweep_106 rfl (lv_at hl 3 rfl) ?_
          refine lv_iconst (v := 0) hx hb dX6_sweep_107 (by decide) ?_
          refine r_ast (k := 10) (i := (nT y)) S hh hz (by decide) hy1 (show nT y < 6 by omega) dX6_sweep_108 (fun f9 H locs hh hz => ?_)
          refine lv_iload_n hx hb dX6_sweep_109 rfl (lv_at hl 0 rfl) ?_
          subst e71
          exact k_iret hx hb hr hlk hh dX6_sweep_110 (Nat.le_of_ble_eq_true rfl) (Nat.le_of_ble_eq_true rfl) (by
  have hT : sweepT M nl x y = 0 := by (unfold sweepT; (repeat' split); all_goals first | rfl | contradiction)
  exact ⟨congrArg (fun r => some (Value.int r)) (by rw [if_pos hT]; try rfl), rfl, hz.cast (by unfold sweepF; rw [if_pos hT]; try rfl)⟩)
        · refine lv_iconst (v := 2) hx hb dX6_sweep_48 (by decide) ?_
          refine lv_goto (tgt := 53) hx hb dX6_sweep_49 (by decide) ?_
          refine r_put S hh hz hin 21 (by decide) rfl rfl rfl (by decide +kernel) dX6_sweep_53 (fun f9 H locs hh hz => ?_)
          refine lv_aload_n hx hb dX6_sweep_56 rfl (lv_at hl 0 rfl) ?_
          refine r_get S hh hz hin 21 (by decide) rfl rfl (by decide +kernel) dX6_sweep_57 ?_
          refine lv_if_eq (tgt := 65) hx hb dX6_sweep_60 (by decide) (fun c => absurd (show (2 : Int32) = (0 : Int32) from c) (by decide)) (fun _ => ?_)
          refine lv_iconst (v := 0) hx hb dX6_sweep_63 (by decide) ?_
          exact k_iret hx hb hr hlk hh dX6_sweep_64 (Nat.le_of_ble_eq_true rfl) (Nat.le_of_ble_eq_true rfl) (by
  have hT : sweepT M nl x y = 2 := by (unfold sweepT; (repeat' split); all_goals first | rfl | contradiction)
  exact ⟨congrArg (fun r => some (Value.int r)) (by rw [if_neg (by rw [hT]; decide)]; try rfl), rfl, hz.cast (by unfold sweepF; rw [if_neg (by rw [hT]; decide)]; rw [hT]; try rfl)⟩)
    · refine lv_aload_n hx hb dX6_sweep_22 rfl (lv_at hl 0 rfl) ?_
      refine lv_iconst (v := 1) hx hb dX6_sweep_23 (by decide) ?_
      refine r_put S hh hz hin 21 (by decide) rfl rfl rfl (by decide +kernel) dX6_sweep_24 (fun f9 H locs hh hz => ?_)
      refine lv_iconst (v := 0) hx hb dX6_sweep_27 (by decide) ?_
      exact k_iret hx hb hr hlk hh dX6_sweep_28 (Nat.le_of_ble_eq_true rfl) (Nat.le_of_ble_eq_true rfl) (by
  have hT : sweepT M nl x y = 1 := by (unfold sweepT; (repeat' split); all_goals first | rfl | contradiction)
  exact ⟨congrArg (fun r => some (Value.int r)) (by rw [if_neg (by rw [hT]; decide)]; try rfl), rfl, hz.cast (by unfold sweepF; rw [if_neg (by rw [hT]; decide)]; rw [hT]; try rfl)⟩)

set_option maxRecDepth 100000 in
set_option maxHeartbeats 4000000 in
theorem c_endOrder {l : Launch} {κ : Kx} {xm : Nat} {b : Nat → Nat} {M : MS} {L : List Nat} {f0 f : Nat → va_E} (hz : ZR κ xm b M L f0 f) {i : Nat} (hi : i < 6) (hw : LW M i) : PM l κ yX6_endOrder wsX6_endOrder ({ frames := 0, cells := 0, slots := 0, locals := 0 } : Room) [.ref xm, .int (nI i)] L f (fun v L1 f1 => v = none ∧ L = L1 ∧ ZR κ xm b (endF M i) L f f1) noX 0 0 := by
  refine PM.mk (cc := cX6_endOrder) (maxL := 3) (ret := none) (by decide) rfl (Nat.le_of_ble_eq_true rfl) ?_
  intro p e s m args below meth c ls hx hb hml hr hlk hnm hown hts ht hh hl
  have hl : lv_has ls 3 [(0, .ref xm), (1, .int (nI i))] := hl
  have S : CallFix p m c cX6_endOrder 3 s args wsX6_endOrder RX6 := ⟨hx, hb, hml, hown, hts⟩
  have hin : ∀ w ∈ wsX60, w ∈ wsX6_endOrder := by decide +kernel
  have hz := hz.self
  refine lv_aload_n hx hb dX6_endOrder_0 rfl (lv_at hl 0 rfl) ?_
  refine r_get S hh hz hin 6 (by decide) rfl rfl (by decide +kernel) dX6_endOrder_1 ?_
  refine lv_iload_n hx hb dX6_endOrder_4 rfl (lv_at hl 1 rfl) ?_
  refine r_ald (k := 6) (i := i) S hh hz (by decide) rfl hi dX6_endOrder_5 ?_
  refine lv_topi (fun x6 e6 => ?_)
  refine lv_istore_n (lv' := [(2, .int x6), (0, .ref xm), (1, .int (nI i))]) hx hb dX6_endOrder_6 rfl hl (by decide) rfl (fun ls hl => ?_)
  refine lv_aload_n hx hb dX6_endOrder_7 rfl (lv_at hl 1 rfl) ?_
  refine r_get S hh hz hin 6 (by decide) rfl rfl (by decide +kernel) dX6_endOrder_8 ?_
  refine lv_iload_n hx hb dX6_endOrder_11 rfl (lv_at hl 2 rfl) ?_
  refine lv_iconst (v := (-1)) hx hb dX6_endOrder_12 (by decide) ?_
  refine r_ast (k := 6) (i := i) S hh hz (by decide) rfl hi dX6_endOrder_13 (fun f9 H locs hh hz => ?_)
  refine lv_aload_n hx hb dX6_endOrder_14 rfl (lv_at hl 1 rfl) ?_
  refine r_get S hh hz hin 4 (by decide) rfl rfl (by decide +kernel) dX6_endOrder_15 ?_
  refine lv_iload_n hx hb dX6_endOrder_18 rfl (lv_at hl 2 rfl) ?_
  refine lv_iconst (v := 0) hx hb dX6_endOrder_19 (by decide) ?_
  refine r_ast (k := 4) (i := i) S hh hz (by decide) rfl hi dX6_endOrder_20 (fun f9 H locs hh hz => ?_)
  refine lv_aload_n hx hb dX6_endOrder_21 rfl (lv_at hl 1 rfl) ?_
  refine r_get S hh hz hin 10 (by decide) rfl rfl (by decide +kernel) dX6_endOrder_22 ?_
  refine lv_iload_n hx hb dX6_endOrder_25 rfl (lv_at hl 0 rfl) ?_
  refine r_ald (k := 10) (i := (nT (M 6 i))) S hh hz (by decide) (e6.trans hw.1.1) hw.1.2 dX6_endOrder_26 ?_
  refine lv_bipush (v := 8) hx hb dX6_endOrder_27 (by decide) ?_
  refine lv_icmp_lt (tgt := 47) hx hb dX6_endOrder_29 (by decide) (fun c29 => ?_) (fun c29 => ?_)
  · have d29 : (M 10 (nT (M 6 i))) < 8 := c29
    subst e6
    exact k_vret hx hb hr hlk hh dX6_endOrder_47 (Nat.le_of_ble_eq_true rfl) (Nat.le_of_ble_eq_true rfl) ⟨rfl, rfl, hz.cast (by unfold endF; (repeat' split); all_goals first | rfl | contradiction)⟩
  · have d29 : ¬ (M 10 (nT (M 6 i))) < 8 := c29
    refine lv_aload_n hx hb dX6_endOrder_32 rfl (lv_at hl 1 rfl) ?_
    refine r_get S hh hz hin 11 (by decide) rfl rfl (by decide +kernel) dX6_endOrder_33 ?_
    refine lv_iload_n hx hb dX6_endOrder_36 rfl (lv_at hl 0 rfl) ?_
    refine lv_bipush (v := 8) hx hb dX6_endOrder_37 (by decide) ?_
    refine r_ast (k := 11) (i := (nT (M 6 i))) S hh hz (by decide) (e6.trans hw.1.1) hw.1.2 dX6_endOrder_39 (fun f9 H locs hh hz => ?_)
    refine lv_aload_n hx hb dX6_endOrder_40 rfl (lv_at hl 1 rfl) ?_
    refine r_get S hh hz hin 10 (by decide) rfl rfl (by decide +kernel) dX6_endOrder_41 ?_
    refine lv_iload_n hx hb dX6_endOrder_44 rfl (lv_at hl 0 rfl) ?_
    refine lv_iconst (v := 0) hx hb dX6_endOrder_45 (by decide) ?_
    refine r_ast (k := 10) (i := (nT (M 6 i))) S hh hz (by decide) (e6.trans hw.1.1) hw.1.2 dX6_endOrder_46 (fun f9 H locs hh hz => ?_)
    subst e6
    exact k_vret hx hb hr hlk hh dX6_endOrder_47 (Nat.le_of_ble_eq_true rfl) (Nat.le_of_ble_eq_true rfl) ⟨rfl, rfl, hz.cast (by unfold endF; (repeat' split); all_goals first | rfl | contradiction)⟩

set_option maxRecDepth 100000 in
set_option maxHeartbeats 4000000 in
theorem c_turnHome {l : Launch} {κ : Kx} {xm : Nat} {b : Nat → Nat} {M : MS} {L : List Nat} {f0 f : Nat → va_E} (hz : ZR κ xm b M L f0 f) {i : Nat} (hi : i < 6) : PM l κ yX6_turnHome wsX6_turnHome ({ frames := 0, cells := 0, slots := 0, locals := 0 } : Room) [.ref xm, .int (nI i)] L f (fun v L1 f1 => v = none ∧ L = L1 ∧ ZR κ xm b (turnF M i) L f f1) noX 0 0 := by
  refine PM.mk (cc := cX6_turnHome) (maxL := 2) (ret := none) (by decide) rfl (Nat.le_of_ble_eq_true rfl) ?_
  intro p e s m args below meth c ls hx hb hml hr hlk hnm hown hts ht hh hl
  have hl : lv_has ls 2 [(0, .ref xm), (1, .int (nI i))] := hl
  have S : CallFix p m c cX6_turnHome 2 s args wsX6_turnHome RX6 := ⟨hx, hb, hml, hown, hts⟩
  have hin : ∀ w ∈ wsX60, w ∈ wsX6_turnHome := by decide +kernel
  have hz := hz.self
  refine lv_aload_n hx hb dX6_turnHome_0 rfl (lv_at hl 0 rfl) ?_
  refine r_get S hh hz hin 4 (by decide) rfl rfl (by decide +kernel) dX6_turnHome_1 ?_
  refine lv_iload_n hx hb dX6_turnHome_4 rfl (lv_at hl 1 rfl) ?_
  refine lv_iconst (v := 3) hx hb dX6_turnHome_5 (by decide) ?_
  refine r_ast (k := 4) (i := i) S hh hz (by decide) rfl hi dX6_turnHome_6 (fun f9 H locs hh hz => ?_)
  refine lv_aload_n hx hb dX6_turnHome_7 rfl (lv_at hl 0 rfl) ?_
  refine r_get S hh hz hin 8 (by decide) rfl rfl (by decide +kernel) dX6_turnHome_8 ?_
  refine lv_iload_n hx hb dX6_turnHome_11 rfl (lv_at hl 1 rfl) ?_
  refine lv_iconst (v := 1) hx hb dX6_turnHome_12 (by decide) ?_
  refine r_ast (k := 8) (i := i) S hh hz (by decide) rfl hi dX6_turnHome_13 (fun f9 H locs hh hz => ?_)
  exact k_vret hx hb hr hlk hh dX6_turnHome_14 (Nat.le_of_ble_eq_true rfl) (Nat.le_of_ble_eq_true rfl) ⟨rfl, rfl, hz⟩

set_option maxRecDepth 100000 in
set_option maxHeartbeats 4000000 in
theorem c_shovels {l : Launch} {κ : Kx} {xm : Nat} {b : Nat → Nat} {M : MS} {L : List Nat} {f0 f : Nat → va_E} (hz : ZR κ xm b M L f0 f) {i : Nat} {x : Int32} (hi : i < 6) (hw : LW M i) : PM l κ yX6_shovels wsX6_shovels ({ frames := 1, cells := 0, slots := 0, locals := 21 } : Room) [.ref xm, .int (nI i), .int x] L f (fun v L1 f1 => v = some (.int (shovF M i x)) ∧ L = L1 ∧ f = f1) noX 0 0 := by
  refine PM.mk (cc := cX6_shovels) (maxL := 4) (ret := (some .int)) (by decide) rfl (Nat.le_of_ble_eq_true rfl) ?_
  intro p e s m args below meth c ls hx hb hml hr hlk hnm hown hts ht hh hl
  have hl : lv_has ls 4 [(0, .ref xm), (1, .int (nI i)), (2, .int x)] := hl
  have S : CallFix p m c cX6_shovels 4 s args wsX6_shovels RX6 := ⟨hx, hb, hml, hown, hts⟩
  have hin : ∀ w ∈ wsX60, w ∈ wsX6_shovels := by decide +kernel
  refine lv_iconst (v := 4) hx hb dX6_shovels_0 (by decide) ?_
  refine lv_aload_n hx hb dX6_shovels_1 rfl (lv_at hl 0 rfl) ?_
  refine r_get S hh hz hin 9 (by decide) rfl rfl (by decide +kernel) dX6_shovels_2 ?_
  refine lv_aload_n hx hb dX6_shovels_5 rfl (lv_at hl 0 rfl) ?_
  refine r_get S hh hz hin 6 (by decide) rfl rfl (by decide +kernel) dX6_shovels_6 ?_
  refine lv_iload_n hx hb dX6_shovels_9 rfl (lv_at hl 1 rfl) ?_
  refine r_ald (k := 6) (i := i) S hh hz (by decide) rfl hi dX6_shovels_10 ?_
  refine r_ald (k := 9) (i := (nT (M 6 i))) S hh hz (by decide) hw.1.1 hw.1.2 dX6_shovels_11 ?_
  refine lv_imul hx hb dX6_shovels_12 ?_
  refine lv_aload_n hx hb dX6_shovels_13 rfl (lv_at hl 0 rfl) ?_
  refine r_get S hh hz hin 3 (by decide) rfl rfl (by decide +kernel) dX6_shovels_14 ?_
  refine lv_iload_n hx hb dX6_shovels_17 rfl (lv_at hl 1 rfl) ?_
  refine r_ald (k := 3) (i := i) S hh hz (by decide) rfl hi dX6_shovels_18 ?_
  refine lv_iconst (v := 5) hx hb dX6_shovels_19 (by decide) ?_
  refine lv_idiv hx hb dX6_shovels_20 (by decide) ?_
  refine lv_isub hx hb dX6_shovels_21 ?_
  refine lv_topi (fun x22 e22 => ?_)
  refine lv_istore_n (lv' := [(3, .int x22), (0, .ref xm), (1, .int (nI i)), (2, .int x)]) hx hb dX6_shovels_22 rfl hl (by decide) rfl (fun ls hl => ?_)
  refine lv_iload_n hx hb dX6_shovels_23 rfl (lv_at hl 0 rfl) ?_
  refine lv_iconst (v := 1) hx hb dX6_shovels_24 (by decide) ?_
  refine lv_icmp_ge (tgt := 32) hx hb dX6_shovels_25 (by decide) (fun c25 => ?_) (fun c25 => ?_)
  · refine lv_iload_n hx hb dX6_shovels_32 rfl (lv_at hl 0 rfl) ?_
    refine lv_iload_n hx hb dX6_shovels_33 rfl (lv_at hl 3 rfl) ?_
    refine k_callS0 (As := [.int x22, .int x]) (c_least (x := x22) (y := x) (L := L)) S hh (va_cwS 2 hts gX6_shovels_X6_least rfl rfl rfl (by decide +kernel) ⟨(Nat.le_of_ble_eq_true rfl), (Nat.le_of_ble_eq_true rfl)⟩) rfl hl.1 rfl (Nat.le_of_ble_eq_true rfl) dX6_shovels_34 ⟨(Nat.le_of_ble_eq_true rfl), (Nat.le_of_ble_eq_true rfl)⟩ (fun v L1 f1 H locs hp hh => ?_)
    obtain ⟨rfl, hL1, hf1⟩ := hp
    subst hL1; subst hf1
    subst e22
    exact k_iret hx hb hr hlk hh dX6_shovels_37 (Nat.le_of_ble_eq_true rfl) (Nat.le_of_ble_eq_true rfl) ⟨congrArg (fun r => some (Value.int r)) (by unfold shovF; (repeat' split); all_goals first | rfl | contradiction), rfl, rfl⟩
  · refine lv_iconst (v := 1) hx hb dX6_shovels_28 (by decide) ?_
    refine lv_goto (tgt := 33) hx hb dX6_shovels_29 (by decide) ?_
    refine lv_iload_n hx hb dX6_shovels_33 rfl (lv_at hl 3 rfl) ?_
    refine k_callS0 (As := [.int 1, .int x]) (c_least (x := 1) (y := x) (L := L)) S hh (va_cwS 2 hts gX6_shovels_X6_least rfl rfl rfl (by decide +kernel) ⟨(Nat.le_of_ble_eq_true rfl), (Nat.le_of_ble_eq_true rfl)⟩) rfl hl.1 rfl (Nat.le_of_ble_eq_true rfl) dX6_shovels_34 ⟨(Nat.le_of_ble_eq_true rfl), (Nat.le_of_ble_eq_true rfl)⟩ (fun v L1 f1 H locs hp hh => ?_)
    obtain ⟨rfl, hL1, hf1⟩ := hp
    subst hL1; subst hf1
    subst e22
    exact k_iret hx hb hr hlk hh dX6_shovels_37 (Nat.le_of_ble_eq_true rfl) (Nat.le_of_ble_eq_true rfl) ⟨congrArg (fun r => some (Value.int r)) (by unfold shovF; (repeat' split); all_goals first | rfl | contradiction), rfl, rfl⟩

set_option maxRecDepth 100000 in
set_option maxHeartbeats 4000000 in
theorem c_atHulk {l : Launch} {κ : Kx} {xm : Nat} {b : Nat → Nat} {M : MS} {L : List Nat} {f0 f : Nat → va_E} (hz : ZR κ xm b M L f0 f) {i : Nat} (hi : i < 6) (hw : LW M i) : PM l κ yX6_atHulk wsX6_atHulk ({ frames := 2, cells := 0, slots := 0, locals := 44 } : Room) [.ref xm, .int (nI i)] L f (fun v L1 f1 => v = none ∧ L = L1 ∧ ZR κ xm b (atHulkF M i) L f f1) noX 0 0 := by
  refine PM.mk (cc := cX6_atHulk) (maxL := 5) (ret := none) (by decide) rfl (Nat.le_of_ble_eq_true rfl) ?_
  intro p e s m args below meth c ls hx hb hml hr hlk hnm hown hts ht hh hl
  have hl : lv_has ls 5 [(0, .ref xm), (1, .int (nI i))] := hl
  have S : CallFix p m c cX6_atHulk 5 s args wsX6_atHulk RX6 := ⟨hx, hb, hml, hown, hts⟩
  have hin : ∀ w ∈ wsX60, w ∈ wsX6_atHulk := by decide +kernel
  have hz := hz.self
  refine lv_aload_n hx hb dX6_atHulk_0 rfl (lv_at hl 0 rfl) ?_
  refine r_get S hh hz hin 0 (by decide) rfl rfl (by decide +kernel) dX6_atHulk_1 ?_
  refine lv_aload_n hx hb dX6_atHulk_4 rfl (lv_at hl 0 rfl) ?_
  refine r_get S hh hz hin 5 (by decide) rfl rfl (by decide +kernel) dX6_atHulk_5 ?_
  refine lv_iload_n hx hb dX6_atHulk_8 rfl (lv_at hl 1 rfl) ?_
  refine r_ald (k := 5) (i := i) S hh hz (by decide) rfl hi dX6_atHulk_9 ?_
  refine r_ald (k := 0) (i := (nT (M 5 i))) S hh hz (by decide) hw.2.2.1 hw.2.2.2 dX6_atHulk_10 ?_
  refine lv_topi (fun x11 e11 => ?_)
  refine lv_istore_n (lv' := [(2, .int x11), (0, .ref xm), (1, .int (nI i))]) hx hb dX6_atHulk_11 rfl hl (by decide) rfl (fun ls hl => ?_)
  refine lv_aload_n hx hb dX6_atHulk_12 rfl (lv_at hl 1 rfl) ?_
  refine r_get S hh hz hin 1 (by decide) rfl rfl (by decide +kernel) dX6_atHulk_13 ?_
  refine lv_iload_n hx hb dX6_atHulk_16 rfl (lv_at hl 2 rfl) ?_
  refine r_ald (k := 1) (i := i) S hh hz (by decide) rfl hi dX6_atHulk_17 ?_
  refine lv_aload_n hx hb dX6_atHulk_18 rfl (lv_at hl 1 rfl) ?_
  refine r_get S hh hz hin 2 (by decide) rfl rfl (by decide +kernel) dX6_atHulk_19 ?_
  refine lv_iload_n hx hb dX6_atHulk_22 rfl (lv_at hl 2 rfl) ?_
  refine r_ald (k := 2) (i := i) S hh hz (by decide) rfl hi dX6_atHulk_23 ?_
  refine lv_isub hx hb dX6_atHulk_24 ?_
  refine lv_topi (fun x25 e25 => ?_)
  refine lv_istore_n (lv' := [(3, .int x25), (2, .int x11), (0, .ref xm), (1, .int (nI i))]) hx hb dX6_atHulk_25 rfl hl (by decide) rfl (fun ls hl => ?_)
  refine lv_iload_n hx hb dX6_atHulk_26 rfl (lv_at hl 1 rfl) ?_
  refine lv_if_le (tgt := 96) hx hb dX6_atHulk_27 (by decide) (fun c27 => ?_) (fun c27 => ?_)
  · refine lv_aload_n hx hb dX6_atHulk_96 rfl (lv_at hl 2 rfl) ?_
    refine r_get S hh hz hin 2 (by decide) rfl rfl (by decide +kernel) dX6_atHulk_97 ?_
    refine lv_iload_n hx hb dX6_atHulk_100 rfl (lv_at hl 3 rfl) ?_
    refine r_ald (k := 2) (i := i) S hh hz (by decide) rfl hi dX6_atHulk_101 ?_
    refine lv_if_le (tgt := 122) hx hb dX6_atHulk_102 (by decide) (fun c102 => ?_) (fun c102 => ?_)
    · refine lv_aload_n hx hb dX6_atHulk_122 rfl (lv_at hl 2 rfl) ?_
      refine lv_iload_n hx hb dX6_atHulk_123 rfl (lv_at hl 3 rfl) ?_
      refine k_callV0 (As := [.int (nI i)]) (c_endOrder hz hi hw) S hh (cwV 1 hts gX6_atHulk_X6_endOrder rfl rfl rfl (by decide +kernel) ⟨(Nat.le_of_ble_eq_true rfl), (Nat.le_of_ble_eq_true rfl)⟩) hz.1.1 hz.1.2 (q := (RX6, TX6, 22)) rfl rfl rfl hl.1 rfl (Nat.le_of_ble_eq_true rfl) dX6_atHulk_124 ⟨(Nat.le_of_ble_eq_true rfl), (Nat.le_of_ble_eq_true rfl)⟩ (fun v L1 f1 H locs hp hh => ?_)
      obtain ⟨rfl, hL1, hz1⟩ := hp
      subst hL1
      have hz := hz.trans hz1
      subst e25
      subst e11
      exact k_vret hx hb hr hlk hh dX6_atHulk_127 (Nat.le_of_ble_eq_true rfl) (Nat.le_of_ble_eq_true rfl) ⟨rfl, rfl, hz.cast (by unfold atHulkF castF fillF; (repeat' split); all_goals first | rfl | contradiction)⟩
    · refine lv_aload_n hx hb dX6_atHulk_105 rfl (lv_at hl 2 rfl) ?_
      refine r_get S hh hz hin 4 (by decide) rfl rfl (by decide +kernel) dX6_atHulk_106 ?_
      refine lv_iload_n hx hb dX6_atHulk_109 rfl (lv_at hl 3 rfl) ?_
      refine lv_iconst (v := 1) hx hb dX6_atHulk_110 (by decide) ?_
      refine r_ast (k := 4) (i := i) S hh hz (by decide) rfl hi dX6_atHulk_111 (fun f9 H locs hh hz => ?_)
      refine lv_aload_n hx hb dX6_atHulk_112 rfl (lv_at hl 2 rfl) ?_
      refine r_get S hh hz hin 8 (by decide) rfl rfl (by decide +kernel) dX6_atHulk_113 ?_
      refine lv_iload_n hx hb dX6_atHulk_116 rfl (lv_at hl 3 rfl) ?_
      refine lv_iconst (v := 2) hx hb dX6_atHulk_117 (by decide) ?_
      refine r_ast (k := 8) (i := i) S hh hz (by decide) rfl hi dX6_atHulk_118 (fun f9 H locs hh hz => ?_)
      refine lv_goto (tgt := 127) hx hb dX6_atHulk_119 (by decide) ?_
      subst e25
      subst e11
      exact k_vret hx hb hr hlk hh dX6_atHulk_127 (Nat.le_of_ble_eq_true rfl) (Nat.le_of_ble_eq_true rfl) ⟨rfl, rfl, hz.cast (by unfold atHulkF castF fillF; (repeat' split); all_goals first | rfl | contradiction)⟩
  · refine lv_iload_n hx hb dX6_atHulk_30 rfl (lv_at hl 0 rfl) ?_
    refine lv_if_le (tgt := 96) hx hb dX6_atHulk_31 (by decide) (fun c31 => ?_) (fun c31 => ?_)
    · refine lv_aload_n hx hb dX6_atHulk_96 rfl (lv_at hl 2 rfl) ?_
      refine r_get S hh hz hin 2 (by decide) rfl rfl (by decide +kernel) dX6_atHulk_97 ?_
      refine lv_iload_n hx hb dX6_atHulk_100 rfl (lv_at hl 3 rfl) ?_
      refine r_ald (k := 2) (i := i) S hh hz (by decide) rfl hi dX6_atHulk_101 ?_
      refine lv_if_le (tgt := 122) hx hb dX6_atHulk_102 (by decide) (fun c102 => ?_) (fun c102 => ?_)
      · refine lv_aload_n hx hb dX6_atHulk_122 rfl (lv_at hl 2 rfl) ?_
        refine lv_iload_n hx hb dX6_atHulk_123 rfl (lv_at hl 3 rfl) ?_
        refine k_callV0 (As := [.int (nI i)]) (c_endOrder hz hi hw) S hh (cwV 1 hts gX6_atHulk_X6_endOrder rfl rfl rfl (by decide +kernel) ⟨(Nat.le_of_ble_eq_true rfl), (Nat.le_of_ble_eq_true rfl)⟩) hz.1.1 hz.1.2 (q := (RX6, TX6, 22)) rfl rfl rfl hl.1 rfl (Nat.le_of_ble_eq_true rfl) dX6_atHulk_124 ⟨(Nat.le_of_ble_eq_true rfl), (Nat.le_of_ble_eq_true rfl)⟩ (fun v L1 f1 H locs hp hh => ?_)
        obtain ⟨rfl, hL1, hz1⟩ := hp
        subst hL1
        have hz := hz.trans hz1
        subst e25
        subst e11
        exact k_vret hx hb hr hlk hh dX6_atHulk_127 (Nat.le_of_ble_eq_true rfl) (Nat.le_of_ble_eq_true rfl) ⟨rfl, rfl, hz.cast (by unfold atHulkF castF fillF; (repeat' split); all_goals first | rfl | contradiction)⟩
      · refine lv_aload_n hx hb dX6_atHulk_105 rfl (lv_at hl 2 rfl) ?_
        refine r_get S hh hz hin 4 (by decide) rfl rfl (by decide +kernel) dX6_atHulk_106 ?_
        refine lv_iload_n hx hb dX6_atHulk_109 rfl (lv_at hl 3 rfl) ?_
        refine lv_iconst (v := 1) hx hb dX6_atHulk_110 (by decide) ?_
        refine r_ast (k := 4) (i := i) S hh hz (by decide) rfl hi dX6_atHulk_111 (fun f9 H locs hh hz => ?_)
        refine lv_aload_n hx hb dX6_atHulk_112 rfl (lv_at hl 2 rfl) ?_
        refine r_get S hh hz hin 8 (by decide) rfl rfl (by decide +kernel) dX6_atHulk_113 ?_
        refine lv_iload_n hx hb dX6_atHulk_116 rfl (lv_at hl 3 rfl) ?_
        refine lv_iconst (v := 2) hx hb dX6_atHulk_117 (by decide) ?_
        refine r_ast (k := 8) (i := i) S hh hz (by decide) rfl hi dX6_atHulk_118 (fun f9 H locs hh hz => ?_)
        refine lv_goto (tgt := 127) hx hb dX6_atHulk_119 (by decide) ?_
        subst e25
        subst e11
        exact k_vret hx hb hr hlk hh dX6_atHulk_127 (Nat.le_of_ble_eq_true rfl) (Nat.le_of_ble_eq_true rfl) ⟨rfl, rfl, hz.cast (by unfold atHulkF castF fillF; (repeat' split); all_goals first | rfl | contradiction)⟩
    · refine lv_aload_n hx hb dX6_atHulk_34 rfl (lv_at hl 2 rfl) ?_
      refine lv_iload_n hx hb dX6_atHulk_35 rfl (lv_at hl 3 rfl) ?_
      refine lv_iload_n hx hb dX6_atHulk_36 rfl (lv_at hl 1 rfl) ?_
      refine lv_iload_n hx hb dX6_atHulk_37 rfl (lv_at hl 0 rfl) ?_
      refine k_callS0 (As := [.int x11, .int x25]) (c_least (x := x11) (y := x25) (L := L)) S hh (va_cwS 2 hts gX6_atHulk_X6_least rfl rfl rfl (by decide +kernel) ⟨(Nat.le_of_ble_eq_true rfl), (Nat.le_of_ble_eq_true rfl)⟩) rfl hl.1 rfl (Nat.le_of_ble_eq_true rfl) dX6_atHulk_38 ⟨(Nat.le_of_ble_eq_true rfl), (Nat.le_of_ble_eq_true rfl)⟩ (fun v L1 f1 H locs hp hh => ?_)
      obtain ⟨rfl, hL1, hf1⟩ := hp
      subst hL1; subst hf1
      refine k_callV0 (As := [.int (nI i), .int (leastF x11 x25)]) (c_shovels hz (x := (leastF x11 x25)) hi hw) S hh (cwV 2 hts gX6_atHulk_X6_shovels rfl rfl rfl (by decide +kernel) ⟨(Nat.le_of_ble_eq_true rfl), (Nat.le_of_ble_eq_true rfl)⟩) hz.1.1 hz.1.2 (q := (RX6, TX6, 22)) rfl rfl rfl hl.1 rfl (Nat.le_of_ble_eq_true rfl) dX6_atHulk_41 ⟨(Nat.le_of_ble_eq_true rfl), (Nat.le_of_ble_eq_true rfl)⟩ (fun v L1 f1 H locs hp hh => ?_)
      obtain ⟨rfl, hL1, hf1⟩ := hp
      subst hL1; subst hf1
      refine lv_topi (fun x44 e44 => ?_)
      refine lv_istore (lv' := [(4, .int x44), (3, .int x25), (2, .int x11), (0, .ref xm), (1, .int (nI i))]) hx hb dX6_atHulk_44 hl (by decide) rfl (fun ls hl => ?_)
      refine lv_aload_n hx hb dX6_atHulk_46 rfl (lv_at hl 3 rfl) ?_
      refine r_get S hh hz hin 0 (by decide) rfl rfl (by decide +kernel) dX6_atHulk_47 ?_
      refine lv_aload_n hx hb dX6_atHulk_50 rfl (lv_at hl 3 rfl) ?_
      refine r_get S hh hz hin 5 (by decide) rfl rfl (by decide +kernel) dX6_atHulk_51 ?_
      refine lv_iload_n hx hb dX6_atHulk_54 rfl (lv_at hl 4 rfl) ?_
      refine r_ald (k := 5) (i := i) S hh hz (by decide) rfl hi dX6_atHulk_55 ?_
      refine lv_dup2_11 hx hb dX6_atHulk_56 rfl rfl ?_
      refine r_ald (k := 0) (i := (nT (M 5 i))) S hh hz (by decide) hw.2.2.1 hw.2.2.2 dX6_atHulk_57 ?_
      refine lv_iload hx hb dX6_atHulk_58 (lv_at hl 0 rfl) ?_
      refine lv_isub hx hb dX6_atHulk_60 ?_
      refine r_ast (k := 0) (i := (nT (M 5 i))) S hh hz (by decide) hw.2.2.1 hw.2.2.2 dX6_atHulk_61 (fun f9 H locs hh hz => ?_)
      refine lv_aload_n hx hb dX6_atHulk_62 rfl (lv_at hl 3 rfl) ?_
      refine r_get S hh hz hin 2 (by decide) rfl rfl (by decide +kernel) dX6_atHulk_63 ?_
      refine lv_iload_n hx hb dX6_atHulk_66 rfl (lv_at hl 4 rfl) ?_
      refine lv_dup2_11 hx hb dX6_atHulk_67 rfl rfl ?_
      refine r_ald (k := 2) (i := i) S hh hz (by decide) rfl hi dX6_atHulk_68 ?_
      refine lv_iload hx hb dX6_atHulk_69 (lv_at hl 0 rfl) ?_
      refine lv_iload hx hb dX6_atHulk_71 (lv_at hl 0 rfl) ?_
      refine lv_bipush (v := 50) hx hb dX6_atHulk_73 (by decide) ?_
      refine lv_idiv hx hb dX6_atHulk_75 (by decide) ?_
      refine lv_isub hx hb dX6_atHulk_76 ?_
      refine lv_iadd hx hb dX6_atHulk_77 ?_
      refine r_ast (k := 2) (i := i) S hh hz (by decide) rfl hi dX6_atHulk_78 (fun f9 H locs hh hz => ?_)
      refine lv_aload_n hx hb dX6_atHulk_79 rfl (lv_at hl 3 rfl) ?_
      refine r_get S hh hz hin 3 (by decide) rfl rfl (by decide +kernel) dX6_atHulk_80 ?_
      refine lv_iload_n hx hb dX6_atHulk_83 rfl (lv_at hl 4 rfl) ?_
      refine lv_dup2_11 hx hb dX6_atHulk_84 rfl rfl ?_
      refine r_ald (k := 3) (i := i) S hh hz (by decide) rfl hi dX6_atHulk_85 ?_
      refine lv_iload hx hb dX6_atHulk_86 (lv_at hl 0 rfl) ?_
      refine lv_bipush (v := 50) hx hb dX6_atHulk_88 (by decide) ?_
      refine lv_idiv hx hb dX6_atHulk_90 (by decide) ?_
      refine lv_iadd hx hb dX6_atHulk_91 ?_
      refine r_ast (k := 3) (i := i) S hh hz (by decide) rfl hi dX6_atHulk_92 (fun f9 H locs hh hz => ?_)
      refine lv_goto (tgt := 127) hx hb dX6_atHulk_93 (by decide) ?_
      subst e44
      subst e25
      subst e11
      exact k_vret hx hb hr hlk hh dX6_atHulk_127 (Nat.le_of_ble_eq_true rfl) (Nat.le_of_ble_eq_true rfl) ⟨rfl, rfl, hz.cast (by unfold atHulkF castF fillF; (repeat' split); all_goals first | rfl | contradiction)⟩

set_option maxRecDepth 100000 in
set_option maxHeartbeats 4000000 in
theorem c_atSteamer {l : Launch} {κ : Kx} {xm : Nat} {b : Nat → Nat} {M : MS} {L : List Nat} {f0 f : Nat → va_E} (hz : ZR κ xm b M L f0 f) {i : Nat} (hi : i < 6) (hw : LW M i) : PM l κ yX6_atSteamer wsX6_atSteamer ({ frames := 2, cells := 0, slots := 0, locals := 44 } : Room) [.ref xm, .int (nI i)] L f (fun v L1 f1 => v = none ∧ L = L1 ∧ ZR κ xm b (atSteamerF M i) L f f1) noX 0 0 := by
  refine PM.mk (cc := cX6_atSteamer) (maxL := 4) (ret := none) (by decide) rfl (Nat.le_of_ble_eq_true rfl) ?_
  intro p e s m args below meth c ls hx hb hml hr hlk hnm hown hts ht hh hl
  have hl : lv_has ls 4 [(0, .ref xm), (1, .int (nI i))] := hl
  have S : CallFix p m c cX6_atSteamer 4 s args wsX6_atSteamer RX6 := ⟨hx, hb, hml, hown, hts⟩
  have hin : ∀ w ∈ wsX60, w ∈ wsX6_atSteamer := by decide +kernel
  have hz := hz.self
  refine lv_aload_n hx hb dX6_atSteamer_0 rfl (lv_at hl 0 rfl) ?_
  refine r_get S hh hz hin 7 (by decide) rfl rfl (by decide +kernel) dX6_atSteamer_1 ?_
  refine lv_iload_n hx hb dX6_atSteamer_4 rfl (lv_at hl 1 rfl) ?_
  refine r_ald (k := 7) (i := i) S hh hz (by decide) rfl hi dX6_atSteamer_5 ?_
  refine lv_topi (fun x6 e6 => ?_)
  refine lv_istore_n (lv' := [(2, .int x6), (0, .ref xm), (1, .int (nI i))]) hx hb dX6_atSteamer_6 rfl hl (by decide) rfl (fun ls hl => ?_)
  refine lv_aload_n hx hb dX6_atSteamer_7 rfl (lv_at hl 1 rfl) ?_
  refine r_get S hh hz hin 2 (by decide) rfl rfl (by decide +kernel) dX6_atSteamer_8 ?_
  refine lv_iload_n hx hb dX6_atSteamer_11 rfl (lv_at hl 2 rfl) ?_
  refine r_ald (k := 2) (i := i) S hh hz (by decide) rfl hi dX6_atSteamer_12 ?_
  refine lv_if_ne (tgt := 24) hx hb dX6_atSteamer_13 (by decide) (fun c13 => ?_) (fun c13 => ?_)
  · refine lv_aload_n hx hb dX6_atSteamer_24 rfl (lv_at hl 1 rfl) ?_
    refine r_get S hh hz hin 14 (by decide) rfl rfl (by decide +kernel) dX6_atSteamer_25 ?_
    refine lv_iload_n hx hb dX6_atSteamer_28 rfl (lv_at hl 0 rfl) ?_
    refine r_ald (k := 14) (i := (nT (M 7 i))) S hh hz (by decide) (e6.trans hw.2.1.1) hw.2.1.2 dX6_atSteamer_29 ?_
    refine lv_iconst (v := 1) hx hb dX6_atSteamer_30 (by decide) ?_
    refine lv_icmp_ne (tgt := 108) hx hb dX6_atSteamer_31 (by decide) (fun c31 => ?_) (fun c31 => ?_)
    · subst e6
      exact k_vret hx hb hr hlk hh dX6_atSteamer_108 (Nat.le_of_ble_eq_true rfl) (Nat.le_of_ble_eq_true rfl) ⟨rfl, rfl, hz.cast (by unfold atSteamerF pourF; (repeat' split); all_goals first | rfl | contradiction)⟩
    · refine lv_aload_n hx hb dX6_atSteamer_34 rfl (lv_at hl 1 rfl) ?_
      refine lv_iload_n hx hb dX6_atSteamer_35 rfl (lv_at hl 2 rfl) ?_
      refine lv_aload_n hx hb dX6_atSteamer_36 rfl (lv_at hl 1 rfl) ?_
      refine r_get S hh hz hin 2 (by decide) rfl rfl (by decide +kernel) dX6_atSteamer_37 ?_
      refine lv_iload_n hx hb dX6_atSteamer_40 rfl (lv_at hl 2 rfl) ?_
      refine r_ald (k := 2) (i := i) S hh hz (by decide) rfl hi dX6_atSteamer_41 ?_
      refine lv_aload_n hx hb dX6_atSteamer_42 rfl (lv_at hl 1 rfl) ?_
      refine r_get S hh hz hin 12 (by decide) rfl rfl (by decide +kernel) dX6_atSteamer_43 ?_
      refine lv_iload_n hx hb dX6_atSteamer_46 rfl (lv_at hl 0 rfl) ?_
      refine r_ald (k := 12) (i := (nT (M 7 i))) S hh hz (by decide) (e6.trans hw.2.1.1) hw.2.1.2 dX6_atSteamer_47 ?_
      refine k_callS0 (As := [.int (M 2 i), .int (M 12 (nT (M 7 i)))]) (c_least (x := (M 2 i)) (y := (M 12 (nT (M 7 i)))) (L := L)) S hh (va_cwS 2 hts gX6_atSteamer_X6_least rfl rfl rfl (by decide +kernel) ⟨(Nat.le_of_ble_eq_true rfl), (Nat.le_of_ble_eq_true rfl)⟩) rfl hl.1 rfl (Nat.le_of_ble_eq_true rfl) dX6_atSteamer_48 ⟨(Nat.le_of_ble_eq_true rfl), (Nat.le_of_ble_eq_true rfl)⟩ (fun v L1 f1 H locs hp hh => ?_)
      obtain ⟨rfl, hL1, hf1⟩ := hp
      subst hL1; subst hf1
      refine k_callV0 (As := [.int (nI i), .int (leastF (M 2 i) (M 12 (nT (M 7 i))))]) (c_shovels hz (x := (leastF (M 2 i) (M 12 (nT (M 7 i))))) hi hw) S hh (cwV 2 hts gX6_atSteamer_X6_shovels rfl rfl rfl (by decide +kernel) ⟨(Nat.le_of_ble_eq_true rfl), (Nat.le_of_ble_eq_true rfl)⟩) hz.1.1 hz.1.2 (q := (RX6, TX6, 22)) rfl rfl rfl hl.1 rfl (Nat.le_of_ble_eq_true rfl) dX6_atSteamer_51 ⟨(Nat.le_of_ble_eq_true rfl), (Nat.le_of_ble_eq_true rfl)⟩ (fun v L1 f1 H locs hp hh => ?_)
      obtain ⟨rfl, hL1, hf1⟩ := hp
      subst hL1; subst hf1
      refine lv_topi (fun x54 e54 => ?_)
      refine lv_istore_n (lv' := [(3, .int x54), (2, .int x6), (0, .ref xm), (1, .int (nI i))]) hx hb dX6_atSteamer_54 rfl hl (by decide) rfl (fun ls hl => ?_)
      refine lv_aload_n hx hb dX6_atSteamer_55 rfl (lv_at hl 2 rfl) ?_
      refine r_get S hh hz hin 2 (by decide) rfl rfl (by decide +kernel) dX6_atSteamer_56 ?_
      refine lv_iload_n hx hb dX6_atSteamer_59 rfl (lv_at hl 3 rfl) ?_
      refine lv_dup2_11 hx hb dX6_atSteamer_60 rfl rfl ?_
      refine r_ald (k := 2) (i := i) S hh hz (by decide) rfl hi dX6_atSteamer_61 ?_
      refine lv_iload_n hx hb dX6_atSteamer_62 rfl (lv_at hl 0 rfl) ?_
      refine lv_isub hx hb dX6_atSteamer_63 ?_
      refine r_ast (k := 2) (i := i) S hh hz (by decide) rfl hi dX6_atSteamer_64 (fun f9 H locs hh hz => ?_)
      refine lv_aload_n hx hb dX6_atSteamer_65 rfl (lv_at hl 2 rfl) ?_
      refine r_get S hh hz hin 3 (by decide) rfl rfl (by decide +kernel) dX6_atSteamer_66 ?_
      refine lv_iload_n hx hb dX6_atSteamer_69 rfl (lv_at hl 3 rfl) ?_
      refine lv_dup2_11 hx hb dX6_atSteamer_70 rfl rfl ?_
      refine r_ald (k := 3) (i := i) S hh hz (by decide) rfl hi dX6_atSteamer_71 ?_
      refine lv_iload_n hx hb dX6_atSteamer_72 rfl (lv_at hl 0 rfl) ?_
      refine lv_bipush (v := 50) hx hb dX6_atSteamer_73 (by decide) ?_
      refine lv_idiv hx hb dX6_atSteamer_75 (by decide) ?_
      refine lv_iadd hx hb dX6_atSteamer_76 ?_
      refine r_ast (k := 3) (i := i) S hh hz (by decide) rfl hi dX6_atSteamer_77 (fun f9 H locs hh hz => ?_)
      refine lv_aload_n hx hb dX6_atSteamer_78 rfl (lv_at hl 2 rfl) ?_
      refine r_get S hh hz hin 12 (by decide) rfl rfl (by decide +kernel) dX6_atSteamer_79 ?_
      refine lv_iload_n hx hb dX6_atSteamer_82 rfl (lv_at hl 1 rfl) ?_
      refine lv_dup2_11 hx hb dX6_atSteamer_83 rfl rfl ?_
      refine r_ald (k := 12) (i := (nT (M 7 i))) S hh hz (by decide) (e6.trans hw.2.1.1) hw.2.1.2 dX6_atSteamer_84 ?_
      refine lv_iload_n hx hb dX6_atSteamer_85 rfl (lv_at hl 0 rfl) ?_
      refine lv_iload_n hx hb dX6_atSteamer_86 rfl (lv_at hl 0 rfl) ?_
      refine lv_bipush (v := 50) hx hb dX6_atSteamer_87 (by decide) ?_
      refine lv_idiv hx hb dX6_atSteamer_89 (by decide) ?_
      refine lv_isub hx hb dX6_atSteamer_90 ?_
      refine lv_isub hx hb dX6_atSteamer_91 ?_
      refine r_ast (k := 12) (i := (nT (M 7 i))) S hh hz (by decide) (e6.trans hw.2.1.1) hw.2.1.2 dX6_atSteamer_92 (fun f9 H locs hh hz => ?_)
      refine lv_aload_n hx hb dX6_atSteamer_93 rfl (lv_at hl 2 rfl) ?_
      refine lv_dup hx hb dX6_atSteamer_94 rfl ?_
      refine r_get S hh hz hin 20 (by decide) rfl rfl (by decide +kernel) dX6_atSteamer_95 ?_
      refine lv_iload_n hx hb dX6_atSteamer_98 rfl (lv_at hl 0 rfl) ?_
      refine lv_iload_n hx hb dX6_atSteamer_99 rfl (lv_at hl 0 rfl) ?_
      refine lv_bipush (v := 50) hx hb dX6_atSteamer_100 (by decide) ?_
      refine lv_idiv hx hb dX6_atSteamer_102 (by decide) ?_
      refine lv_isub hx hb dX6_atSteamer_103 ?_
      refine lv_iadd hx hb dX6_atSteamer_104 ?_
      refine r_put S hh hz hin 20 (by decide) rfl rfl rfl (by decide +kernel) dX6_atSteamer_105 (fun f9 H locs hh hz => ?_)
      subst e54
      subst e6
      exact k_vret hx hb hr hlk hh dX6_atSteamer_108 (Nat.le_of_ble_eq_true rfl) (Nat.le_of_ble_eq_true rfl) ⟨rfl, rfl, hz.cast (by unfold atSteamerF pourF; (repeat' split); all_goals first | rfl | contradiction)⟩
  · refine lv_aload_n hx hb dX6_atSteamer_16 rfl (lv_at hl 1 rfl) ?_
    refine lv_iload_n hx hb dX6_atSteamer_17 rfl (lv_at hl 2 rfl) ?_
    refine k_callV0 (As := [.int (nI i)]) (c_turnHome hz hi) S hh (cwV 1 hts gX6_atSteamer_X6_turnHome rfl rfl rfl (by decide +kernel) ⟨(Nat.le_of_ble_eq_true rfl), (Nat.le_of_ble_eq_true rfl)⟩) hz.1.1 hz.1.2 (q := (RX6, TX6, 22)) rfl rfl rfl hl.1 rfl (Nat.le_of_ble_eq_true rfl) dX6_atSteamer_18 ⟨(Nat.le_of_ble_eq_true rfl), (Nat.le_of_ble_eq_true rfl)⟩ (fun v L1 f1 H locs hp hh => ?_)
    obtain ⟨rfl, hL1, hz1⟩ := hp
    subst hL1
    have hz := hz.trans hz1
    refine lv_goto (tgt := 108) hx hb dX6_atSteamer_21 (by decide) ?_
    subst e6
    exact k_vret hx hb hr hlk hh dX6_atSteamer_108 (Nat.le_of_ble_eq_true rfl) (Nat.le_of_ble_eq_true rfl) ⟨rfl, rfl, hz.cast (by unfold atSteamerF pourF; (repeat' split); all_goals first | rfl | contradiction)⟩

set_option maxRecDepth 100000 in
set_option maxHeartbeats 4000000 in
theorem c_goOn {l : Launch} {κ : Kx} {xm : Nat} {b : Nat → Nat} {M : MS} {L : List Nat} {f0 f : Nat → va_E} (hz : ZR κ xm b M L f0 f) {i : Nat} (hi : i < 6) (hw : LW M i) : PM l κ yX6_goOn wsX6_goOn ({ frames := 1, cells := 0, slots := 0, locals := 22 } : Room) [.ref xm, .int (nI i)] L f (fun v L1 f1 => v = none ∧ L = L1 ∧ ZR κ xm b (goOnF M i) L f f1) noX 0 0 := by
  refine PM.mk (cc := cX6_goOn) (maxL := 2) (ret := none) (by decide) rfl (Nat.le_of_ble_eq_true rfl) ?_
  intro p e s m args below meth c ls hx hb hml hr hlk hnm hown hts ht hh hl
  have hl : lv_has ls 2 [(0, .ref xm), (1, .int (nI i))] := hl
  have S : CallFix p m c cX6_goOn 2 s args wsX6_goOn RX6 := ⟨hx, hb, hml, hown, hts⟩
  have hin : ∀ w ∈ wsX60, w ∈ wsX6_goOn := by decide +kernel
  have hz := hz.self
  refine lv_aload_n hx hb dX6_goOn_0 rfl (lv_at hl 0 rfl) ?_
  refine r_get S hh hz hin 8 (by decide) rfl rfl (by decide +kernel) dX6_goOn_1 ?_
  refine lv_iload_n hx hb dX6_goOn_4 rfl (lv_at hl 1 rfl) ?_
  refine lv_dup2_11 hx hb dX6_goOn_5 rfl rfl ?_
  refine r_ald (k := 8) (i := i) S hh hz (by decide) rfl hi dX6_goOn_6 ?_
  refine lv_iconst (v := 1) hx hb dX6_goOn_7 (by decide) ?_
  refine lv_isub hx hb dX6_goOn_8 ?_
  refine r_ast (k := 8) (i := i) S hh hz (by decide) rfl hi dX6_goOn_9 (fun f9 H locs hh hz => ?_)
  refine lv_aload_n hx hb dX6_goOn_10 rfl (lv_at hl 0 rfl) ?_
  refine r_get S hh hz hin 8 (by decide) rfl rfl (by decide +kernel) dX6_goOn_11 ?_
  refine lv_iload_n hx hb dX6_goOn_14 rfl (lv_at hl 1 rfl) ?_
  refine r_ald (k := 8) (i := i) S hh hz (by decide) rfl hi dX6_goOn_15 ?_
  refine lv_if_le (tgt := 20) hx hb dX6_goOn_16 (by decide) (fun c16 => ?_) (fun c16 => ?_)
  · have d16 : ((stM M 8 i ((M 8 i) - 1)) 8 i) ≤ 0 := c16
    refine lv_aload_n hx hb dX6_goOn_20 rfl (lv_at hl 0 rfl) ?_
    refine r_get S hh hz hin 4 (by decide) rfl rfl (by decide +kernel) dX6_goOn_21 ?_
    refine lv_iload_n hx hb dX6_goOn_24 rfl (lv_at hl 1 rfl) ?_
    refine r_ald (k := 4) (i := i) S hh hz (by decide) rfl hi dX6_goOn_25 ?_
    refine lv_iconst (v := 1) hx hb dX6_goOn_26 (by decide) ?_
    refine lv_icmp_ne (tgt := 40) hx hb dX6_goOn_27 (by decide) (fun c27 => ?_) (fun c27 => ?_)
    · have d27 : ¬ (M 4 i) = 1 := c27
      refine lv_aload_n hx hb dX6_goOn_40 rfl (lv_at hl 0 rfl) ?_
      refine lv_iload_n hx hb dX6_goOn_41 rfl (lv_at hl 1 rfl) ?_
      refine k_callV0 (As := [.int (nI i)]) (c_endOrder hz hi hw) S hh (cwV 1 hts gX6_goOn_X6_endOrder rfl rfl rfl (by decide +kernel) ⟨(Nat.le_of_ble_eq_true rfl), (Nat.le_of_ble_eq_true rfl)⟩) hz.1.1 hz.1.2 (q := (RX6, TX6, 22)) rfl rfl rfl hl.1 rfl (Nat.le_of_ble_eq_true rfl) dX6_goOn_42 ⟨(Nat.le_of_ble_eq_true rfl), (Nat.le_of_ble_eq_true rfl)⟩ (fun v L1 f1 H locs hp hh => ?_)
      obtain ⟨rfl, hL1, hz1⟩ := hp
      subst hL1
      have hz := hz.trans hz1
      exact k_vret hx hb hr hlk hh dX6_goOn_45 (Nat.le_of_ble_eq_true rfl) (Nat.le_of_ble_eq_true rfl) ⟨rfl, rfl, hz.cast (by unfold goOnF goF; (repeat' split); all_goals first | rfl | contradiction)⟩
    · have d27 : (M 4 i) = 1 := c27
      refine lv_aload_n hx hb dX6_goOn_30 rfl (lv_at hl 0 rfl) ?_
      refine r_get S hh hz hin 4 (by decide) rfl rfl (by decide +kernel) dX6_goOn_31 ?_
      refine lv_iload_n hx hb dX6_goOn_34 rfl (lv_at hl 1 rfl) ?_
      refine lv_iconst (v := 2) hx hb dX6_goOn_35 (by decide) ?_
      refine r_ast (k := 4) (i := i) S hh hz (by decide) rfl hi dX6_goOn_36 (fun f9 H locs hh hz => ?_)
      refine lv_goto (tgt := 45) hx hb dX6_goOn_37 (by decide) ?_
      exact k_vret hx hb hr hlk hh dX6_goOn_45 (Nat.le_of_ble_eq_true rfl) (Nat.le_of_ble_eq_true rfl) ⟨rfl, rfl, hz.cast (by unfold goOnF goF; (repeat' split); all_goals first | rfl | contradiction)⟩
  · have d16 : ¬ ((stM M 8 i ((M 8 i) - 1)) 8 i) ≤ 0 := c16
    exact k_vret hx hb hr hlk hh dX6_goOn_19 (Nat.le_of_ble_eq_true rfl) (Nat.le_of_ble_eq_true rfl) ⟨rfl, rfl, hz.cast (by unfold goOnF goF; (repeat' split); all_goals first | rfl | contradiction)⟩

set_option maxRecDepth 100000 in
set_option maxHeartbeats 4000000 in
theorem c_work {l : Launch} {κ : Kx} {xm : Nat} {b : Nat → Nat} {M : MS} {L : List Nat} {f0 f : Nat → va_E} (hz : ZR κ xm b M L f0 f) {i : Nat} (hi : i < 6) (hw : LW M i) : PM l κ yX6_work wsX6_work ({ frames := 3, cells := 0, slots := 0, locals := 68 } : Room) [.ref xm, .int (nI i)] L f (fun v L1 f1 => v = none ∧ L = L1 ∧ ZR κ xm b (workF M i) L f f1) noX 0 0 := by
  refine PM.mk (cc := cX6_work) (maxL := 2) (ret := none) (by decide) rfl (Nat.le_of_ble_eq_true rfl) ?_
  intro p e s m args below meth c ls hx hb hml hr hlk hnm hown hts ht hh hl
  have hl : lv_has ls 2 [(0, .ref xm), (1, .int (nI i))] := hl
  have S : CallFix p m c cX6_work 2 s args wsX6_work RX6 := ⟨hx, hb, hml, hown, hts⟩
  have hin : ∀ w ∈ wsX60, w ∈ wsX6_work := by decide +kernel
  have hz := hz.self
  refine lv_aload_n hx hb dX6_work_0 rfl (lv_at hl 0 rfl) ?_
  refine r_get S hh hz hin 10 (by decide) rfl rfl (by decide +kernel) dX6_work_1 ?_
  refine lv_aload_n hx hb dX6_work_4 rfl (lv_at hl 0 rfl) ?_
  refine r_get S hh hz hin 6 (by decide) rfl rfl (by decide +kernel) dX6_work_5 ?_
  refine lv_iload_n hx hb dX6_work_8 rfl (lv_at hl 1 rfl) ?_
  refine r_ald (k := 6) (i := i) S hh hz (by decide) rfl hi dX6_work_9 ?_
  refine lv_dup2_11 hx hb dX6_work_10 rfl rfl ?_
  refine r_ald (k := 10) (i := (nT (M 6 i))) S hh hz (by decide) hw.1.1 hw.1.2 dX6_work_11 ?_
  refine lv_iconst (v := 1) hx hb dX6_work_12 (by decide) ?_
  refine lv_iadd hx hb dX6_work_13 ?_
  refine r_ast (k := 10) (i := (nT (M 6 i))) S hh hz (by decide) hw.1.1 hw.1.2 dX6_work_14 (fun f9 H locs hh hz => ?_)
  refine lv_aload_n hx hb dX6_work_15 rfl (lv_at hl 0 rfl) ?_
  refine r_get S hh hz hin 4 (by decide) rfl rfl (by decide +kernel) dX6_work_16 ?_
  refine lv_iload_n hx hb dX6_work_19 rfl (lv_at hl 1 rfl) ?_
  refine r_ald (k := 4) (i := i) S hh hz (by decide) rfl hi dX6_work_20 ?_
  refine lv_if_ne (tgt := 32) hx hb dX6_work_21 (by decide) (fun c21 => ?_) (fun c21 => ?_)
  · have d21 : ¬ (M 4 i) = 0 := c21
    refine lv_aload_n hx hb dX6_work_32 rfl (lv_at hl 0 rfl) ?_
    refine r_get S hh hz hin 4 (by decide) rfl rfl (by decide +kernel) dX6_work_33 ?_
    refine lv_iload_n hx hb dX6_work_36 rfl (lv_at hl 1 rfl) ?_
    refine r_ald (k := 4) (i := i) S hh hz (by decide) rfl hi dX6_work_37 ?_
    refine lv_iconst (v := 2) hx hb dX6_work_38 (by decide) ?_
    refine lv_icmp_ne (tgt := 50) hx hb dX6_work_39 (by decide) (fun c39 => ?_) (fun c39 => ?_)
    · have d39 : ¬ (M 4 i) = 2 := c39
      refine lv_aload_n hx hb dX6_work_50 rfl (lv_at hl 0 rfl) ?_
      refine lv_iload_n hx hb dX6_work_51 rfl (lv_at hl 1 rfl) ?_
      refine k_callV0 (As := [.int (nI i)]) (c_goOn hz hi hw) S hh (cwV 1 hts gX6_work_X6_goOn rfl rfl rfl (by decide +kernel) ⟨(Nat.le_of_ble_eq_true rfl), (Nat.le_of_ble_eq_true rfl)⟩) hz.1.1 hz.1.2 (q := (RX6, TX6, 22)) rfl rfl rfl hl.1 rfl (Nat.le_of_ble_eq_true rfl) dX6_work_52 ⟨(Nat.le_of_ble_eq_true rfl), (Nat.le_of_ble_eq_true rfl)⟩ (fun v L1 f1 H locs hp hh => ?_)
      obtain ⟨rfl, hL1, hz1⟩ := hp
      subst hL1
      have hz := hz.trans hz1
      exact k_vret hx hb hr hlk hh dX6_work_55 (Nat.le_of_ble_eq_true rfl) (Nat.le_of_ble_eq_true rfl) ⟨rfl, rfl, hz.cast (by unfold workF placeF; (repeat' split); all_goals first | rfl | contradiction)⟩
    · have d39 : (M 4 i) = 2 := c39
      refine lv_aload_n hx hb dX6_work_42 rfl (lv_at hl 0 rfl) ?_
      refine lv_iload_n hx hb dX6_work_43 rfl (lv_at hl 1 rfl) ?_
      refine k_callV0 (As := [.int (nI i)]) (c_atSteamer hz hi hw) S hh (cwV 1 hts gX6_work_X6_atSteamer rfl rfl rfl (by decide +kernel) ⟨(Nat.le_of_ble_eq_true rfl), (Nat.le_of_ble_eq_true rfl)⟩) hz.1.1 hz.1.2 (q := (RX6, TX6, 22)) rfl rfl rfl hl.1 rfl (Nat.le_of_ble_eq_true rfl) dX6_work_44 ⟨(Nat.le_of_ble_eq_true rfl), (Nat.le_of_ble_eq_true rfl)⟩ (fun v L1 f1 H locs hp hh => ?_)
      obtain ⟨rfl, hL1, hz1⟩ := hp
      subst hL1
      have hz := hz.trans hz1
      refine lv_goto (tgt := 55) hx hb dX6_work_47 (by decide) ?_
      exact k_vret hx hb hr hlk hh dX6_work_55 (Nat.le_of_ble_eq_true rfl) (Nat.le_of_ble_eq_true rfl) ⟨rfl, rfl, hz.cast (by unfold workF placeF; (repeat' split); all_goals first | rfl | contradiction)⟩
  · have d21 : (M 4 i) = 0 := c21
    refine lv_aload_n hx hb dX6_work_24 rfl (lv_at hl 0 rfl) ?_
    refine lv_iload_n hx hb dX6_work_25 rfl (lv_at hl 1 rfl) ?_
    refine k_callV0 (As := [.int (nI i)]) (c_atHulk hz hi hw) S hh (cwV 1 hts gX6_work_X6_atHulk rfl rfl rfl (by decide +kernel) ⟨(Nat.le_of_ble_eq_true rfl), (Nat.le_of_ble_eq_true rfl)⟩) hz.1.1 hz.1.2 (q := (RX6, TX6, 22)) rfl rfl rfl hl.1 rfl (Nat.le_of_ble_eq_true rfl) dX6_work_26 ⟨(Nat.le_of_ble_eq_true rfl), (Nat.le_of_ble_eq_true rfl)⟩ (fun v L1 f1 H locs hp hh => ?_)
    obtain ⟨rfl, hL1, hz1⟩ := hp
    subst hL1
    have hz := hz.trans hz1
    refine lv_goto (tgt := 55) hx hb dX6_work_29 (by decide) ?_
    exact k_vret hx hb hr hlk hh dX6_work_55 (Nat.le_of_ble_eq_true rfl) (Nat.le_of_ble_eq_true rfl) ⟨rfl, rfl, hz.cast (by unfold workF placeF; (repeat' split); all_goals first | rfl | contradiction)⟩
end
section
set_option maxRecDepth 100000 in
set_option maxHeartbeats 4000000 in
theorem c_told {l : Launch} {κ : Kx} {xm : Nat} {b : Nat → Nat} {M : MS} {L : List Nat} {f0 f : Nat → va_E} (hz : ZR κ xm b M L f0 f) {k : Nat} {x y : Int32} {n : Nat} (hk : k < 15) (hy : y = nI n) (hn : n ≤ lenM k) : PM l κ yX6_told wsX6_told ({ frames := 1, cells := 0, slots := 0, locals := 21 } : Room) [.ref xm, .ref (b k), .int x, .int y] L f (fun v L1 f1 => v = some (.int (if isF x y = 0 then 0 else M k (nT x))) ∧ L = L1 ∧ ZR κ xm b (toldF M x y) L f f1) noX 0 0 := by
  refine PM.mk (cc := cX6_told) (maxL := 4) (ret := (some .int)) (by decide) rfl (Nat.le_of_ble_eq_true rfl) ?_
  intro p e s m args below meth c ls hx hb hml hr hlk hnm hown hts ht hh hl
  have hl : lv_has ls 4 [(0, .ref xm), (1, .ref (b k)), (2, .int x), (3, .int y)] := hl
  have S : CallFix p m c cX6_told 4 s args wsX6_told RX6 := ⟨hx, hb, hml, hown, hts⟩
  have hin : ∀ w ∈ wsX60, w ∈ wsX6_told := by decide +kernel
  have hz := hz.self
  have hl31 := lenM_lt k
  refine lv_aload_n hx hb dX6_told_0 rfl (lv_at hl 0 rfl) ?_
  refine lv_iload_n hx hb dX6_told_1 rfl (lv_at hl 2 rfl) ?_
  refine lv_iload_n hx hb dX6_told_2 rfl (lv_at hl 3 rfl) ?_
  refine k_callS0 (As := [.int x, .int y]) (c_is (x := x) (y := y) (L := L)) S hh (va_cwS 2 hts gX6_told_X6_is rfl rfl rfl (by decide +kernel) ⟨(Nat.le_of_ble_eq_true rfl), (Nat.le_of_ble_eq_true rfl)⟩) rfl hl.1 rfl (Nat.le_of_ble_eq_true rfl) dX6_told_3 ⟨(Nat.le_of_ble_eq_true rfl), (Nat.le_of_ble_eq_true rfl)⟩ (fun v L1 f1 H locs hp hh => ?_)
  obtain ⟨rfl, hL1, hf1⟩ := hp
  subst hL1; subst hf1
  refine lv_if_eq (tgt := 13) hx hb dX6_told_6 (by decide) (fun c6 => ?_) (fun c6 => ?_)
  · refine lv_iconst (v := 1) hx hb dX6_told_13 (by decide) ?_
    refine r_put S hh hz hin 21 (by decide) rfl rfl rfl (by decide +kernel) dX6_told_14 (fun f9 H locs hh hz => ?_)
    refine lv_aload_n hx hb dX6_told_17 rfl (lv_at hl 0 rfl) ?_
    refine r_get S hh hz hin 21 (by decide) rfl rfl (by decide +kernel) dX6_told_18 ?_
    refine lv_if_ne (tgt := 30) hx hb dX6_told_21 (by decide) (fun _ => ?_) (fun c => absurd (show (1 : Int32) = (0 : Int32) from c) (by decide))
    refine lv_iconst (v := 0) hx hb dX6_told_30 (by decide) ?_
    exact k_iret hx hb hr hlk hh dX6_told_31 (Nat.le_of_ble_eq_true rfl) (Nat.le_of_ble_eq_true rfl) ⟨congrArg (fun r => some (Value.int r)) (by rw [if_pos (by assumption)]), rfl, hz.cast (by unfold toldF; rw [if_pos (by assumption)])⟩
  · obtain ⟨hx1, hx2⟩ := is_ix hy (by omega) c6
    have hk21 : k ≠ 21 := by omega
    refine lv_iconst (v := 0) hx hb dX6_told_9 (by decide) ?_
    refine lv_goto (tgt := 14) hx hb dX6_told_10 (by decide) ?_
    refine r_put S hh hz hin 21 (by decide) rfl rfl rfl (by decide +kernel) dX6_told_14 (fun f9 H locs hh hz => ?_)
    refine lv_aload_n hx hb dX6_told_17 rfl (lv_at hl 0 rfl) ?_
    refine r_get S hh hz hin 21 (by decide) rfl rfl (by decide +kernel) dX6_told_18 ?_
    refine lv_if_ne (tgt := 30) hx hb dX6_told_21 (by decide) (fun c => absurd (show ¬ (0 : Int32) = (0 : Int32) from c) (by decide)) (fun _ => ?_)
    refine lv_aload_n hx hb dX6_told_24 rfl (lv_at hl 1 rfl) ?_
    refine lv_iload_n hx hb dX6_told_25 rfl (lv_at hl 2 rfl) ?_
    refine r_ald (k := k) (i := (nT x)) S hh hz hk hx1 (by omega) dX6_told_26 ?_
    refine lv_goto (tgt := 31) hx hb dX6_told_27 (by decide) ?_
    exact k_iret hx hb hr hlk hh dX6_told_31 (Nat.le_of_ble_eq_true rfl) (Nat.le_of_ble_eq_true rfl) ⟨congrArg (fun r => some (Value.int r)) (by rw [if_neg (by assumption)]; simp [scM, va_up, show k ≠ 21 by omega]), rfl, hz.cast (by unfold toldF; rw [if_neg (by assumption)])⟩

set_option maxRecDepth 100000 in
set_option maxHeartbeats 4000000 in
theorem c_coalIn {l : Launch} {κ : Kx} {xm : Nat} {b : Nat → Nat} {M : MS} {L : List Nat} {f0 f : Nat → va_E} (hz : ZR κ xm b M L f0 f) {x : Int32} {n : Nat} (hy : M 15 0 = nI n) (hn : n ≤ 3) : PM l κ yX6_coalIn wsX6_coalIn ({ frames := 2, cells := 0, slots := 0, locals := 44 } : Room) [.ref xm, .int x] L f (fun v L1 f1 => v = some (.int (if isF x (M 15 0) = 0 then 0 else M 0 (nT x))) ∧ L = L1 ∧ ZR κ xm b (toldF M x (M 15 0)) L f f1) noX 0 0 := by
  refine PM.mk (cc := cX6_coalIn) (maxL := 2) (ret := (some .int)) (by decide) rfl (Nat.le_of_ble_eq_true rfl) ?_
  intro p e s m args below meth c ls hx hb hml hr hlk hnm hown hts ht hh hl
  have hl : lv_has ls 2 [(0, .ref xm), (1, .int x)] := hl
  have S : CallFix p m c cX6_coalIn 2 s args wsX6_coalIn RX6 := ⟨hx, hb, hml, hown, hts⟩
  have hin : ∀ w ∈ wsX60, w ∈ wsX6_coalIn := by decide +kernel
  have hz := hz.self
  refine lv_aload_n hx hb dX6_coalIn_0 rfl (lv_at hl 0 rfl) ?_
  refine lv_aload_n hx hb dX6_coalIn_1 rfl (lv_at hl 0 rfl) ?_
  refine r_get S hh hz hin 0 (by decide) rfl rfl (by decide +kernel) dX6_coalIn_2 ?_
  refine lv_iload_n hx hb dX6_coalIn_5 rfl (lv_at hl 1 rfl) ?_
  refine lv_aload_n hx hb dX6_coalIn_6 rfl (lv_at hl 0 rfl) ?_
  refine r_get S hh hz hin 15 (by decide) rfl rfl (by decide +kernel) dX6_coalIn_7 ?_
  refine k_callV0 (As := [.ref (b 0), .int x, .int (M 15 0)]) (c_told hz (k := 0) (x := x) (by decide) hy hn) S hh (cwV 3 hts gX6_coalIn_X6_told rfl rfl rfl (by decide +kernel) ⟨(Nat.le_of_ble_eq_true rfl), (Nat.le_of_ble_eq_true rfl)⟩) hz.1.1 hz.1.2 (q := (RX6, TX6, 22)) rfl rfl rfl hl.1 rfl (Nat.le_of_ble_eq_true rfl) dX6_coalIn_10 ⟨(Nat.le_of_ble_eq_true rfl), (Nat.le_of_ble_eq_true rfl)⟩ (fun v L1 f1 H locs hp hh => ?_)
  obtain ⟨rfl, hL1, hz1⟩ := hp
  subst hL1
  have hz := hz.trans hz1
  exact k_iret hx hb hr hlk hh dX6_coalIn_13 (Nat.le_of_ble_eq_true rfl) (Nat.le_of_ble_eq_true rfl) ⟨rfl, rfl, hz⟩

set_option maxRecDepth 100000 in
set_option maxHeartbeats 4000000 in
theorem c_placeOf {l : Launch} {κ : Kx} {xm : Nat} {b : Nat → Nat} {M : MS} {L : List Nat} {f0 f : Nat → va_E} (hz : ZR κ xm b M L f0 f) {x : Int32} {n : Nat} (hy : M 16 0 = nI n) (hn : n ≤ 6) : PM l κ yX6_placeOf wsX6_placeOf ({ frames := 2, cells := 0, slots := 0, locals := 44 } : Room) [.ref xm, .int x] L f (fun v L1 f1 => v = some (.int (if isF x (M 16 0) = 0 then 0 else M 4 (nT x))) ∧ L = L1 ∧ ZR κ xm b (toldF M x (M 16 0)) L f f1) noX 0 0 := by
  refine PM.mk (cc := cX6_placeOf) (maxL := 2) (ret := (some .int)) (by decide) rfl (Nat.le_of_ble_eq_true rfl) ?_
  intro p e s m args below meth c ls hx hb hml hr hlk hnm hown hts ht hh hl
  have hl : lv_has ls 2 [(0, .ref xm), (1, .int x)] := hl
  have S : CallFix p m c cX6_placeOf 2 s args wsX6_placeOf RX6 := ⟨hx, hb, hml, hown, hts⟩
  have hin : ∀ w ∈ wsX60, w ∈ wsX6_placeOf := by decide +kernel
  have hz := hz.self
  refine lv_aload_n hx hb dX6_placeOf_0 rfl (lv_at hl 0 rfl) ?_
  refine lv_aload_n hx hb dX6_placeOf_1 rfl (lv_at hl 0 rfl) ?_
  refine r_get S hh hz hin 4 (by decide) rfl rfl (by decide +kernel) dX6_placeOf_2 ?_
  refine lv_iload_n hx hb dX6_placeOf_5 rfl (lv_at hl 1 rfl) ?_
  refine lv_aload_n hx hb dX6_placeOf_6 rfl (lv_at hl 0 rfl) ?_
  refine r_get S hh hz hin 16 (by decide) rfl rfl (by decide +kernel) dX6_placeOf_7 ?_
  refine k_callV0 (As := [.ref (b 4), .int x, .int (M 16 0)]) (c_told hz (k := 4) (x := x) (by decide) hy hn) S hh (cwV 3 hts gX6_placeOf_X6_told rfl rfl rfl (by decide +kernel) ⟨(Nat.le_of_ble_eq_true rfl), (Nat.le_of_ble_eq_true rfl)⟩) hz.1.1 hz.1.2 (q := (RX6, TX6, 22)) rfl rfl rfl hl.1 rfl (Nat.le_of_ble_eq_true rfl) dX6_placeOf_10 ⟨(Nat.le_of_ble_eq_true rfl), (Nat.le_of_ble_eq_true rfl)⟩ (fun v L1 f1 H locs hp hh => ?_)
  obtain ⟨rfl, hL1, hz1⟩ := hp
  subst hL1
  have hz := hz.trans hz1
  exact k_iret hx hb hr hlk hh dX6_placeOf_13 (Nat.le_of_ble_eq_true rfl) (Nat.le_of_ble_eq_true rfl) ⟨rfl, rfl, hz⟩

set_option maxRecDepth 100000 in
set_option maxHeartbeats 4000000 in
theorem c_loadOf {l : Launch} {κ : Kx} {xm : Nat} {b : Nat → Nat} {M : MS} {L : List Nat} {f0 f : Nat → va_E} (hz : ZR κ xm b M L f0 f) {x : Int32} {n : Nat} (hy : M 16 0 = nI n) (hn : n ≤ 6) : PM l κ yX6_loadOf wsX6_loadOf ({ frames := 2, cells := 0, slots := 0, locals := 44 } : Room) [.ref xm, .int x] L f (fun v L1 f1 => v = some (.int (if isF x (M 16 0) = 0 then 0 else M 2 (nT x))) ∧ L = L1 ∧ ZR κ xm b (toldF M x (M 16 0)) L f f1) noX 0 0 := by
  refine PM.mk (cc := cX6_loadOf) (maxL := 2) (ret := (some .int)) (by decide) rfl (Nat.le_of_ble_eq_true rfl) ?_
  intro p e s m args below meth c ls hx hb hml hr hlk hnm hown hts ht hh hl
  have hl : lv_has ls 2 [(0, .ref xm), (1, .int x)] := hl
  have S : CallFix p m c cX6_loadOf 2 s args wsX6_loadOf RX6 := ⟨hx, hb, hml, hown, hts⟩
  have hin : ∀ w ∈ wsX60, w ∈ wsX6_loadOf := by decide +kernel
  have hz := hz.self
  refine lv_aload_n hx hb dX6_loadOf_0 rfl (lv_at hl 0 rfl) ?_
  refine lv_aload_n hx hb dX6_loadOf_1 rfl (lv_at hl 0 rfl) ?_
  refine r_get S hh hz hin 2 (by decide) rfl rfl (by decide +kernel) dX6_loadOf_2 ?_
  refine lv_iload_n hx hb dX6_loadOf_5 rfl (lv_at hl 1 rfl) ?_
  refine lv_aload_n hx hb dX6_loadOf_6 rfl (lv_at hl 0 rfl) ?_
  refine r_get S hh hz hin 16 (by decide) rfl rfl (by decide +kernel) dX6_loadOf_7 ?_
  refine k_callV0 (As := [.ref (b 2), .int x, .int (M 16 0)]) (c_told hz (k := 2) (x := x) (by decide) hy hn) S hh (cwV 3 hts gX6_loadOf_X6_told rfl rfl rfl (by decide +kernel) ⟨(Nat.le_of_ble_eq_true rfl), (Nat.le_of_ble_eq_true rfl)⟩) hz.1.1 hz.1.2 (q := (RX6, TX6, 22)) rfl rfl rfl hl.1 rfl (Nat.le_of_ble_eq_true rfl) dX6_loadOf_10 ⟨(Nat.le_of_ble_eq_true rfl), (Nat.le_of_ble_eq_true rfl)⟩ (fun v L1 f1 H locs hp hh => ?_)
  obtain ⟨rfl, hL1, hz1⟩ := hp
  subst hL1
  have hz := hz.trans hz1
  exact k_iret hx hb hr hlk hh dX6_loadOf_13 (Nat.le_of_ble_eq_true rfl) (Nat.le_of_ble_eq_true rfl) ⟨rfl, rfl, hz⟩

set_option maxRecDepth 100000 in
set_option maxHeartbeats 4000000 in
theorem c_dustIn {l : Launch} {κ : Kx} {xm : Nat} {b : Nat → Nat} {M : MS} {L : List Nat} {f0 f : Nat → va_E} (hz : ZR κ xm b M L f0 f) {x : Int32} {n : Nat} (hy : M 16 0 = nI n) (hn : n ≤ 6) : PM l κ yX6_dustIn wsX6_dustIn ({ frames := 2, cells := 0, slots := 0, locals := 44 } : Room) [.ref xm, .int x] L f (fun v L1 f1 => v = some (.int (if isF x (M 16 0) = 0 then 0 else M 3 (nT x))) ∧ L = L1 ∧ ZR κ xm b (toldF M x (M 16 0)) L f f1) noX 0 0 := by
  refine PM.mk (cc := cX6_dustIn) (maxL := 2) (ret := (some .int)) (by decide) rfl (Nat.le_of_ble_eq_true rfl) ?_
  intro p e s m args below meth c ls hx hb hml hr hlk hnm hown hts ht hh hl
  have hl : lv_has ls 2 [(0, .ref xm), (1, .int x)] := hl
  have S : CallFix p m c cX6_dustIn 2 s args wsX6_dustIn RX6 := ⟨hx, hb, hml, hown, hts⟩
  have hin : ∀ w ∈ wsX60, w ∈ wsX6_dustIn := by decide +kernel
  have hz := hz.self
  refine lv_aload_n hx hb dX6_dustIn_0 rfl (lv_at hl 0 rfl) ?_
  refine lv_aload_n hx hb dX6_dustIn_1 rfl (lv_at hl 0 rfl) ?_
  refine r_get S hh hz hin 3 (by decide) rfl rfl (by decide +kernel) dX6_dustIn_2 ?_
  refine lv_iload_n hx hb dX6_dustIn_5 rfl (lv_at hl 1 rfl) ?_
  refine lv_aload_n hx hb dX6_dustIn_6 rfl (lv_at hl 0 rfl) ?_
  refine r_get S hh hz hin 16 (by decide) rfl rfl (by decide +kernel) dX6_dustIn_7 ?_
  refine k_callV0 (As := [.ref (b 3), .int x, .int (M 16 0)]) (c_told hz (k := 3) (x := x) (by decide) hy hn) S hh (cwV 3 hts gX6_dustIn_X6_told rfl rfl rfl (by decide +kernel) ⟨(Nat.le_of_ble_eq_true rfl), (Nat.le_of_ble_eq_true rfl)⟩) hz.1.1 hz.1.2 (q := (RX6, TX6, 22)) rfl rfl rfl hl.1 rfl (Nat.le_of_ble_eq_true rfl) dX6_dustIn_10 ⟨(Nat.le_of_ble_eq_true rfl), (Nat.le_of_ble_eq_true rfl)⟩ (fun v L1 f1 H locs hp hh => ?_)
  obtain ⟨rfl, hL1, hz1⟩ := hp
  subst hL1
  have hz := hz.trans hz1
  exact k_iret hx hb hr hlk hh dX6_dustIn_13 (Nat.le_of_ble_eq_true rfl) (Nat.le_of_ble_eq_true rfl) ⟨rfl, rfl, hz⟩

set_option maxRecDepth 100000 in
set_option maxHeartbeats 4000000 in
theorem c_gangOn {l : Launch} {κ : Kx} {xm : Nat} {b : Nat → Nat} {M : MS} {L : List Nat} {f0 f : Nat → va_E} (hz : ZR κ xm b M L f0 f) {x : Int32} {n : Nat} (hy : M 16 0 = nI n) (hn : n ≤ 6) : PM l κ yX6_gangOn wsX6_gangOn ({ frames := 2, cells := 0, slots := 0, locals := 44 } : Room) [.ref xm, .int x] L f (fun v L1 f1 => v = some (.int (if isF x (M 16 0) = 0 then 0 else M 6 (nT x))) ∧ L = L1 ∧ ZR κ xm b (toldF M x (M 16 0)) L f f1) noX 0 0 := by
  refine PM.mk (cc := cX6_gangOn) (maxL := 2) (ret := (some .int)) (by decide) rfl (Nat.le_of_ble_eq_true rfl) ?_
  intro p e s m args below meth c ls hx hb hml hr hlk hnm hown hts ht hh hl
  have hl : lv_has ls 2 [(0, .ref xm), (1, .int x)] := hl
  have S : CallFix p m c cX6_gangOn 2 s args wsX6_gangOn RX6 := ⟨hx, hb, hml, hown, hts⟩
  have hin : ∀ w ∈ wsX60, w ∈ wsX6_gangOn := by decide +kernel
  have hz := hz.self
  refine lv_aload_n hx hb dX6_gangOn_0 rfl (lv_at hl 0 rfl) ?_
  refine lv_aload_n hx hb dX6_gangOn_1 rfl (lv_at hl 0 rfl) ?_
  refine r_get S hh hz hin 6 (by decide) rfl rfl (by decide +kernel) dX6_gangOn_2 ?_
  refine lv_iload_n hx hb dX6_gangOn_5 rfl (lv_at hl 1 rfl) ?_
  refine lv_aload_n hx hb dX6_gangOn_6 rfl (lv_at hl 0 rfl) ?_
  refine r_get S hh hz hin 16 (by decide) rfl rfl (by decide +kernel) dX6_gangOn_7 ?_
  refine k_callV0 (As := [.ref (b 6), .int x, .int (M 16 0)]) (c_told hz (k := 6) (x := x) (by decide) hy hn) S hh (cwV 3 hts gX6_gangOn_X6_told rfl rfl rfl (by decide +kernel) ⟨(Nat.le_of_ble_eq_true rfl), (Nat.le_of_ble_eq_true rfl)⟩) hz.1.1 hz.1.2 (q := (RX6, TX6, 22)) rfl rfl rfl hl.1 rfl (Nat.le_of_ble_eq_true rfl) dX6_gangOn_10 ⟨(Nat.le_of_ble_eq_true rfl), (Nat.le_of_ble_eq_true rfl)⟩ (fun v L1 f1 H locs hp hh => ?_)
  obtain ⟨rfl, hL1, hz1⟩ := hp
  subst hL1
  have hz := hz.trans hz1
  exact k_iret hx hb hr hlk hh dX6_gangOn_13 (Nat.le_of_ble_eq_true rfl) (Nat.le_of_ble_eq_true rfl) ⟨rfl, rfl, hz⟩

set_option maxRecDepth 100000 in
set_option maxHeartbeats 4000000 in
theorem c_restOf {l : Launch} {κ : Kx} {xm : Nat} {b : Nat → Nat} {M : MS} {L : List Nat} {f0 f : Nat → va_E} (hz : ZR κ xm b M L f0 f) {x : Int32} {n : Nat} (hy : M 17 0 = nI n) (hn : n ≤ 6) : PM l κ yX6_restOf wsX6_restOf ({ frames := 2, cells := 0, slots := 0, locals := 44 } : Room) [.ref xm, .int x] L f (fun v L1 f1 => v = some (.int (if isF x (M 17 0) = 0 then 0 else M 11 (nT x))) ∧ L = L1 ∧ ZR κ xm b (toldF M x (M 17 0)) L f f1) noX 0 0 := by
  refine PM.mk (cc := cX6_restOf) (maxL := 2) (ret := (some .int)) (by decide) rfl (Nat.le_of_ble_eq_true rfl) ?_
  intro p e s m args below meth c ls hx hb hml hr hlk hnm hown hts ht hh hl
  have hl : lv_has ls 2 [(0, .ref xm), (1, .int x)] := hl
  have S : CallFix p m c cX6_restOf 2 s args wsX6_restOf RX6 := ⟨hx, hb, hml, hown, hts⟩
  have hin : ∀ w ∈ wsX60, w ∈ wsX6_restOf := by decide +kernel
  have hz := hz.self
  refine lv_aload_n hx hb dX6_restOf_0 rfl (lv_at hl 0 rfl) ?_
  refine lv_aload_n hx hb dX6_restOf_1 rfl (lv_at hl 0 rfl) ?_
  refine r_get S hh hz hin 11 (by decide) rfl rfl (by decide +kernel) dX6_restOf_2 ?_
  refine lv_iload_n hx hb dX6_restOf_5 rfl (lv_at hl 1 rfl) ?_
  refine lv_aload_n hx hb dX6_restOf_6 rfl (lv_at hl 0 rfl) ?_
  refine r_get S hh hz hin 17 (by decide) rfl rfl (by decide +kernel) dX6_restOf_7 ?_
  refine k_callV0 (As := [.ref (b 11), .int x, .int (M 17 0)]) (c_told hz (k := 11) (x := x) (by decide) hy hn) S hh (cwV 3 hts gX6_restOf_X6_told rfl rfl rfl (by decide +kernel) ⟨(Nat.le_of_ble_eq_true rfl), (Nat.le_of_ble_eq_true rfl)⟩) hz.1.1 hz.1.2 (q := (RX6, TX6, 22)) rfl rfl rfl hl.1 rfl (Nat.le_of_ble_eq_true rfl) dX6_restOf_10 ⟨(Nat.le_of_ble_eq_true rfl), (Nat.le_of_ble_eq_true rfl)⟩ (fun v L1 f1 H locs hp hh => ?_)
  obtain ⟨rfl, hL1, hz1⟩ := hp
  subst hL1
  have hz := hz.trans hz1
  exact k_iret hx hb hr hlk hh dX6_restOf_13 (Nat.le_of_ble_eq_true rfl) (Nat.le_of_ble_eq_true rfl) ⟨rfl, rfl, hz⟩

set_option maxRecDepth 100000 in
set_option maxHeartbeats 4000000 in
theorem c_fateOf {l : Launch} {κ : Kx} {xm : Nat} {b : Nat → Nat} {M : MS} {L : List Nat} {f0 f : Nat → va_E} (hz : ZR κ xm b M L f0 f) {x : Int32} {n : Nat} (hy : M 18 0 = nI n) (hn : n ≤ 600) : PM l κ yX6_fateOf wsX6_fateOf ({ frames := 2, cells := 0, slots := 0, locals := 44 } : Room) [.ref xm, .int x] L f (fun v L1 f1 => v = some (.int (if isF x (M 18 0) = 0 then 0 else M 14 (nT x))) ∧ L = L1 ∧ ZR κ xm b (toldF M x (M 18 0)) L f f1) noX 0 0 := by
  refine PM.mk (cc := cX6_fateOf) (maxL := 2) (ret := (some .int)) (by decide) rfl (Nat.le_of_ble_eq_true rfl) ?_
  intro p e s m args below meth c ls hx hb hml hr hlk hnm hown hts ht hh hl
  have hl : lv_has ls 2 [(0, .ref xm), (1, .int x)] := hl
  have S : CallFix p m c cX6_fateOf 2 s args wsX6_fateOf RX6 := ⟨hx, hb, hml, hown, hts⟩
  have hin : ∀ w ∈ wsX60, w ∈ wsX6_fateOf := by decide +kernel
  have hz := hz.self
  refine lv_aload_n hx hb dX6_fateOf_0 rfl (lv_at hl 0 rfl) ?_
  refine lv_aload_n hx hb dX6_fateOf_1 rfl (lv_at hl 0 rfl) ?_
  refine r_get S hh hz hin 14 (by decide) rfl rfl (by decide +kernel) dX6_fateOf_2 ?_
  refine lv_iload_n hx hb dX6_fateOf_5 rfl (lv_at hl 1 rfl) ?_
  refine lv_aload_n hx hb dX6_fateOf_6 rfl (lv_at hl 0 rfl) ?_
  refine r_get S hh hz hin 18 (by decide) rfl rfl (by decide +kernel) dX6_fateOf_7 ?_
  refine k_callV0 (As := [.ref (b 14), .int x, .int (M 18 0)]) (c_told hz (k := 14) (x := x) (by decide) hy hn) S hh (cwV 3 hts gX6_fateOf_X6_told rfl rfl rfl (by decide +kernel) ⟨(Nat.le_of_ble_eq_true rfl), (Nat.le_of_ble_eq_true rfl)⟩) hz.1.1 hz.1.2 (q := (RX6, TX6, 22)) rfl rfl rfl hl.1 rfl (Nat.le_of_ble_eq_true rfl) dX6_fateOf_10 ⟨(Nat.le_of_ble_eq_true rfl), (Nat.le_of_ble_eq_true rfl)⟩ (fun v L1 f1 H locs hp hh => ?_)
  obtain ⟨rfl, hL1, hz1⟩ := hp
  subst hL1
  have hz := hz.trans hz1
  exact k_iret hx hb hr hlk hh dX6_fateOf_13 (Nat.le_of_ble_eq_true rfl) (Nat.le_of_ble_eq_true rfl) ⟨rfl, rfl, hz⟩

set_option maxRecDepth 100000 in
set_option maxHeartbeats 4000000 in
theorem c_wantOf {l : Launch} {κ : Kx} {xm : Nat} {b : Nat → Nat} {M : MS} {L : List Nat} {f0 f : Nat → va_E} (hz : ZR κ xm b M L f0 f) {x : Int32} {n : Nat} (hy : M 18 0 = nI n) (hn : n ≤ 600) : PM l κ yX6_wantOf wsX6_wantOf ({ frames := 2, cells := 0, slots := 0, locals := 44 } : Room) [.ref xm, .int x] L f (fun v L1 f1 => v = some (.int (if isF x (M 18 0) = 0 then 0 else M 12 (nT x))) ∧ L = L1 ∧ ZR κ xm b (toldF M x (M 18 0)) L f f1) noX 0 0 := by
  refine PM.mk (cc := cX6_wantOf) (maxL := 2) (ret := (some .int)) (by decide) rfl (Nat.le_of_ble_eq_true rfl) ?_
  intro p e s m args below meth c ls hx hb hml hr hlk hnm hown hts ht hh hl
  have hl : lv_has ls 2 [(0, .ref xm), (1, .int x)] := hl
  have S : CallFix p m c cX6_wantOf 2 s args wsX6_wantOf RX6 := ⟨hx, hb, hml, hown, hts⟩
  have hin : ∀ w ∈ wsX60, w ∈ wsX6_wantOf := by decide +kernel
  have hz := hz.self
  refine lv_aload_n hx hb dX6_wantOf_0 rfl (lv_at hl 0 rfl) ?_
  refine lv_aload_n hx hb dX6_wantOf_1 rfl (lv_at hl 0 rfl) ?_
  refine r_get S hh hz hin 12 (by decide) rfl rfl (by decide +kernel) dX6_wantOf_2 ?_
  refine lv_iload_n hx hb dX6_wantOf_5 rfl (lv_at hl 1 rfl) ?_
  refine lv_aload_n hx hb dX6_wantOf_6 rfl (lv_at hl 0 rfl) ?_
  refine r_get S hh hz hin 18 (by decide) rfl rfl (by decide +kernel) dX6_wantOf_7 ?_
  refine k_callV0 (As := [.ref (b 12), .int x, .int (M 18 0)]) (c_told hz (k := 12) (x := x) (by decide) hy hn) S hh (cwV 3 hts gX6_wantOf_X6_told rfl rfl rfl (by decide +kernel) ⟨(Nat.le_of_ble_eq_true rfl), (Nat.le_of_ble_eq_true rfl)⟩) hz.1.1 hz.1.2 (q := (RX6, TX6, 22)) rfl rfl rfl hl.1 rfl (Nat.le_of_ble_eq_true rfl) dX6_wantOf_10 ⟨(Nat.le_of_ble_eq_true rfl), (Nat.le_of_ble_eq_true rfl)⟩ (fun v L1 f1 H locs hp hh => ?_)
  obtain ⟨rfl, hL1, hz1⟩ := hp
  subst hL1
  have hz := hz.trans hz1
  exact k_iret hx hb hr hlk hh dX6_wantOf_13 (Nat.le_of_ble_eq_true rfl) (Nat.le_of_ble_eq_true rfl) ⟨rfl, rfl, hz⟩

set_option maxRecDepth 100000 in
set_option maxHeartbeats 4000000 in
theorem c_outside {l : Launch} {κ : Kx} {xm : Nat} {b : Nat → Nat} {M : MS} {L : List Nat} {f0 f : Nat → va_E} (hz : ZR κ xm b M L f0 f) {x : Int32} {ns : Nat} (hn : M 18 0 = nI ns) (hns : ns ≤ 600) : PM l κ yX6_outside wsX6_outside ({ frames := 0, cells := 0, slots := 0, locals := 0 } : Room) [.ref xm, .int x] L f (fun v L1 f1 => v = some (.int (if outT x = 0 then outGo M ns 0 x else 0)) ∧ L = L1 ∧ ZR κ xm b (scM M 21 (outT x)) L f f1) noX 0 0 := by
  refine PM.mk (cc := cX6_outside) (maxL := 4) (ret := (some .int)) (by decide) rfl (Nat.le_of_ble_eq_true rfl) ?_
  intro p e s m args below meth c ls hx hb hml hr hlk hnm hown hts ht hh hl
  have hl : lv_has ls 4 [(0, .ref xm), (1, .int x)] := hl
  have S : CallFix p m c cX6_outside 4 s args wsX6_outside RX6 := ⟨hx, hb, hml, hown, hts⟩
  have hin : ∀ w ∈ wsX60, w ∈ wsX6_outside := by decide +kernel
  have hz := hz.self
  refine lv_aload_n hx hb dX6_outside_0 rfl (lv_at hl 0 rfl) ?_
  refine lv_iload_n hx hb dX6_outside_1 rfl (lv_at hl 1 rfl) ?_
  refine lv_if_ge (tgt := 9) hx hb dX6_outside_2 (by decide) (fun c2 => ?_) (fun c2 => ?_)
  · refine lv_iconst (v := 0) hx hb dX6_outside_9 (by decide) ?_
    refine r_put S hh hz hin 21 (by decide) rfl rfl rfl (by decide +kernel) dX6_outside_10 (fun f9 H locs hh hz => ?_)
    refine lv_iload_n hx hb dX6_outside_13 rfl (lv_at hl 1 rfl) ?_
    refine lv_istore_n (lv' := [(2, .int x), (0, .ref xm), (1, .int x)]) hx hb dX6_outside_14 rfl hl (by decide) rfl (fun ls hl => ?_)
    refine lv_iconst (v := 0) hx hb dX6_outside_15 (by decide) ?_
    refine lv_istore_n (lv' := [(3, .int 0), (2, .int x), (0, .ref xm), (1, .int x)]) hx hb dX6_outside_16 rfl hl (by decide) rfl (fun ls hl => ?_)
    have loop : ∀ (n i : Nat) (x2 x3 : Int32), i ≤ ns → ns + 1 ≤ i + n → x3 = nI i → outGo M (ns - i) i x2 = outGo M ns 0 x → ∀ ls : Array Slot, lv_has ls 4 [(0, .ref xm), (1, .int x), (2, .int x2), (3, .int x3)] → W p l e ({ frames := 0, cells := 0, slots := 0, locals := 0 } : Room) s m args below meth c H locs 0 0 (vx_MQ below (PQ κ (fun v L1 f1 => v = some (.int (if outT x = 0 then outGo M ns 0 x else 0)) ∧ L = L1 ∧ ZR κ xm b (scM M 21 (outT x)) L f f1)) (PX κ L f noX) args s 0 0 (kA κ)) (F0 m 17 ls []) := by
      intro n
      induction n with
      | zero =>
        intro i x2 x3 h1 h2
        exact absurd h2 (by omega)
      | succ n ih =>
        intro i x2 x3 hi hin3 ex3 ego ls hl
        refine lv_iload_n hx hb dX6_outside_17 rfl (lv_at hl 3 rfl) ?_
        refine lv_aload_n hx hb dX6_outside_18 rfl (lv_at hl 0 rfl) ?_
        refine r_get S hh hz hin 18 (by decide) rfl rfl (by decide +kernel) dX6_outside_19 ?_
        refine lv_icmp_ge (tgt := 70) hx hb dX6_outside_22 (by decide) (fun c22 => ?_) (fun c22 => ?_)
        · have d22 : (M 18 0) ≤ x3 := c22
          have hie : i = ns := by
            rcases Nat.lt_or_ge i ns with q | q
            · exact absurd c22 (by rw [(show scM M 21 0 18 0 = nI ns from hn), ex3]; exact nI_ge q (by omega))
            · omega
          refine lv_aload_n hx hb dX6_outside_70 rfl (lv_at hl 0 rfl) ?_
          refine r_get S hh hz hin 21 (by decide) rfl rfl (by decide +kernel) dX6_outside_71 ?_
          refine lv_if_ne (tgt := 81) hx hb dX6_outside_74 (by decide) (fun c => absurd (show ¬ (0 : Int32) = (0 : Int32) from c) (by decide)) (fun _ => ?_)
          refine lv_iconst (v := (-1)) hx hb dX6_outside_77 (by decide) ?_
          refine lv_goto (tgt := 82) hx hb dX6_outside_78 (by decide) ?_
          exact k_iret hx hb hr hlk hh dX6_outside_82 (Nat.le_of_ble_eq_true rfl) (Nat.le_of_ble_eq_true rfl) (by
  have hT : outT x = 0 := if_pos (by assumption)
  exact ⟨congrArg (fun r => some (Value.int r)) (by rw [if_pos hT]; rw [← ego, hie, Nat.sub_self]; rfl), rfl, hz.cast (by rw [hT])⟩)
        · have d22 : ¬ (M 18 0) ≤ x3 := c22
          have hlt : i < ns := by
            rcases Nat.lt_or_ge i ns with q | q
            · exact q
            · exact absurd (by rw [(show scM M 21 0 18 0 = nI ns from hn), ex3]; exact nI_le q (by omega)) c22
          have hsub : ns - i = (ns - (i + 1)) + 1 := by omega
          rw [hsub, outGo] at ego
          refine lv_aload_n hx hb dX6_outside_25 rfl (lv_at hl 0 rfl) ?_
          refine r_get S hh hz hin 21 (by decide) rfl rfl (by decide +kernel) dX6_outside_26 ?_
          refine lv_if_ne (tgt := 70) hx hb dX6_outside_29 (by decide) (fun c => absurd (show ¬ (0 : Int32) = (0 : Int32) from c) (by decide)) (fun _ => ?_)
          refine lv_aload_n hx hb dX6_outside_32 rfl (lv_at hl 0 rfl) ?_
          refine r_get S hh hz hin 14 (by decide) rfl rfl (by decide +kernel) dX6_outside_33 ?_
          refine lv_iload_n hx hb dX6_outside_36 rfl (lv_at hl 3 rfl) ?_
          refine r_ald (k := 14) (i := i) S hh hz (by decide) ex3 (show i < 600 by omega) dX6_outside_37 ?_
          refine lv_if_ne (tgt := 47) hx hb dX6_outside_38 (by decide) (fun c38 => ?_) (fun c38 => ?_)
          · have d38 : ¬ (M 14 i) = 0 := c38
            refine lv_iload_n hx hb dX6_outside_47 rfl (lv_at hl 2 rfl) ?_
            refine lv_aload_n hx hb dX6_outside_48 rfl (lv_at hl 0 rfl) ?_
            refine r_get S hh hz hin 14 (by decide) rfl rfl (by decide +kernel) dX6_outside_49 ?_
            refine lv_iload_n hx hb dX6_outside_52 rfl (lv_at hl 3 rfl) ?_
            refine r_ald (k := 14) (i := i) S hh hz (by decide) ex3 (show i < 600 by omega) dX6_outside_53 ?_
            refine lv_if_ne (tgt := 61) hx hb dX6_outside_54 (by decide) (fun c54 => ?_) (fun c54 => ?_)
            · have d54 : ¬ (M 14 i) = 0 := c54
              refine lv_iconst (v := 0) hx hb dX6_outside_61 (by decide) ?_
              refine lv_isub hx hb dX6_outside_62 ?_
              refine lv_topi (fun x63 e63 => ?_)
              refine lv_istore_n (lv' := [(2, .int x63), (0, .ref xm), (1, .int x), (3, .int x3)]) hx hb dX6_outside_63 rfl hl (by decide) rfl (fun ls hl => ?_)
              obtain ⟨x64, e64⟩ : ∃ y : Int32, y = x3 + 1 := ⟨_, rfl⟩
              refine lv_iinc (v := x64) (lv' := [(3, .int x64), (2, .int x63), (0, .ref xm), (1, .int x)]) hx hb dX6_outside_64 hl (k := 3) rfl (by rw [e64]; rfl) (by decide) rfl (fun ls hl => ?_)
              refine lv_goto (tgt := 17) hx hb dX6_outside_67 (by decide) ?_
              exact ih (i + 1) x63 x64 (by omega) (by omega) (by rw [e64, ex3]; exact nI_1 i) (by first | contradiction | (rw [← ego, e63, if_pos d38, if_neg d42]; done) | (rw [← ego, e63, if_neg d38]; done)) ls (lv_sub hl [2, 3, 1, 0] rfl)
            · have d54 : (M 14 i) = 0 := c54
              refine lv_iconst (v := 1) hx hb dX6_outside_57 (by decide) ?_
              refine lv_goto (tgt := 62) hx hb dX6_outside_58 (by decide) ?_
              refine lv_isub hx hb dX6_outside_62 ?_
              refine lv_topi (fun x63 e63 => ?_)
              refine lv_istore_n (lv' := [(2, .int x63), (0, .ref xm), (1, .int x), (3, .int x3)]) hx hb dX6_outside_63 rfl hl (by decide) rfl (fun ls hl => ?_)
              obtain ⟨x64, e64⟩ : ∃ y : Int32, y = x3 + 1 := ⟨_, rfl⟩
              refine lv_iinc (v := x64) (lv' := [(3, .int x64), (2, .int x63), (0, .ref xm), (1, .int x)]) hx hb dX6_outside_64 hl (k := 3) rfl (by rw [e64]; rfl) (by decide) rfl (fun ls hl => ?_)
              refine lv_goto (tgt := 17) hx hb dX6_outside_67 (by decide) ?_
              exact ih (i + 1) x63 x64 (by omega) (by omega) (by rw [e64, ex3]; exact nI_1 i) (by first | contradiction | (rw [← ego, e63, if_pos d38, if_neg d42]; done) | (rw [← ego, e63, if_neg d38]; done)) ls (lv_sub hl [2, 3, 1, 0] rfl)
          · have d38 : (M 14 i) = 0 := c38
            refine lv_iload_n hx hb dX6_outside_41 rfl (lv_at hl 2 rfl) ?_
            refine lv_if_ne (tgt := 47) hx hb dX6_outside_42 (by decide) (fun c42 => ?_) (fun c42 => ?_)
            · have d42 : ¬ x2 = 0 := c42
              refine lv_iload_n hx hb dX6_outside_47 rfl (lv_at hl 2 rfl) ?_
              refine lv_aload_n hx hb dX6_outside_48 rfl (lv_at hl 0 rfl) ?_
              refine r_get S hh hz hin 14 (by decide) rfl rfl (by decide +kernel) dX6_outside_49 ?_
              refine lv_iload_n hx hb dX6_outside_52 rfl (lv_at hl 3 rfl) ?_
              refine r_ald (k := 14) (i := i) S hh hz (by decide) ex3 (show i < 600 by omega) dX6_outside_53 ?_
              refine lv_if_ne (tgt := 61) hx hb dX6_outside_54 (by decide) (fun c54 => ?_) (fun c54 => ?_)
              · have d54 : ¬ (M 14 i) = 0 := c54
                refine lv_iconst (v := 0) hx hb dX6_outside_61 (by decide) ?_
                refine lv_isub hx hb dX6_outside_62 ?_
                refine lv_topi (fun x63 e63 => ?_)
                refine lv_istore_n (lv' := [(2, .int x63), (0, .ref xm), (1, .int x), (3, .int x3)]) hx hb dX6_outside_63 rfl hl (by decide) rfl (fun ls hl => ?_)
                obtain ⟨x64, e64⟩ : ∃ y : Int32, y = x3 + 1 := ⟨_, rfl⟩
                refine lv_iinc (v := x64) (lv' := [(3, .int x64), (2, .int x63), (0, .ref xm), (1, .int x)]) hx hb dX6_outside_64 hl (k := 3) rfl (by rw [e64]; rfl) (by decide) rfl (fun ls hl => ?_)
                refine lv_goto (tgt := 17) hx hb dX6_outside_67 (by decide) ?_
                exact ih (i + 1) x63 x64 (by omega) (by omega) (by rw [e64, ex3]; exact nI_1 i) (by first | contradiction | (rw [← ego, e63, if_pos d38, if_neg d42]; done) | (rw [← ego, e63, if_neg d38]; done)) ls (lv_sub hl [2, 3, 1, 0] rfl)
              · have d54 : (M 14 i) = 0 := c54
                refine lv_iconst (v := 1) hx hb dX6_outside_57 (by decide) ?_
                refine lv_goto (tgt := 62) hx hb dX6_outside_58 (by decide) ?_
                refine lv_isub hx hb dX6_outside_62 ?_
                refine lv_topi (fun x63 e63 => ?_)
                refine lv_istore_n (lv' := [(2, .int x63), (0, .ref xm), (1, .int x), (3, .int x3)]) hx hb dX6_outside_63 rfl hl (by decide) rfl (fun ls hl => ?_)
                obtain ⟨x64, e64⟩ : ∃ y : Int32, y = x3 + 1 := ⟨_, rfl⟩
                refine lv_iinc (v := x64) (lv' := [(3, .int x64), (2, .int x63), (0, .ref xm), (1, .int x)]) hx hb dX6_outside_64 hl (k := 3) rfl (by rw [e64]; rfl) (by decide) rfl (fun ls hl => ?_)
                refine lv_goto (tgt := 17) hx hb dX6_outside_67 (by decide) ?_
                exact ih (i + 1) x63 x64 (by omega) (by omega) (by rw [e64, ex3]; exact nI_1 i) (by first | contradiction | (rw [← ego, e63, if_pos d38, if_neg d42]; done) | (rw [← ego, e63, if_neg d38]; done)) ls (lv_sub hl [2, 3, 1, 0] rfl)
            · have d42 : x2 = 0 := c42
              refine lv_iload_n hx hb dX6_outside_45 rfl (lv_at hl 3 rfl) ?_
              exact k_iret hx hb hr hlk hh dX6_outside_46 (Nat.le_of_ble_eq_true rfl) (Nat.le_of_ble_eq_true rfl) (by
  have hT : outT x = 0 := if_pos (by assumption)
  exact ⟨congrArg (fun r => some (Value.int r)) (by rw [if_pos hT]; rw [← ego, if_pos d38, if_pos d42, ex3]), rfl, hz.cast (by rw [hT])⟩)
    exact loop (ns + 1) 0 x 0 (Nat.zero_le _) (by omega) rfl rfl ls (lv_sub hl [2, 3, 1, 0] rfl)
  · refine lv_iconst (v := 1) hx hb dX6_outside_5 (by decide) ?_
    refine lv_goto (tgt := 10) hx hb dX6_outside_6 (by decide) ?_
    refine r_put S hh hz hin 21 (by decide) rfl rfl rfl (by decide +kernel) dX6_outside_10 (fun f9 H locs hh hz => ?_)
    refine lv_iload_n hx hb dX6_outside_13 rfl (lv_at hl 1 rfl) ?_
    refine lv_istore_n (lv' := [(2, .int x), (0, .ref xm), (1, .int x)]) hx hb dX6_outside_14 rfl hl (by decide) rfl (fun ls hl => ?_)
    refine lv_iconst (v := 0) hx hb dX6_outside_15 (by decide) ?_
    refine lv_istore_n (lv' := [(3, .int 0), (2, .int x), (0, .ref xm), (1, .int x)]) hx hb dX6_outside_16 rfl hl (by decide) rfl (fun ls hl => ?_)
    refine lv_iload_n hx hb dX6_outside_17 rfl (lv_at hl 0 rfl) ?_
    refine lv_aload_n hx hb dX6_outside_18 rfl (lv_at hl 2 rfl) ?_
    refine r_get S hh hz hin 18 (by decide) rfl rfl (by decide +kernel) dX6_outside_19 ?_
    refine lv_icmp_ge (tgt := 70) hx hb dX6_outside_22 (by decide) (fun c22 => ?_) (fun c22 => ?_)
    · have d22 : (M 18 0) ≤ 0 := c22
      refine lv_aload_n hx hb dX6_outside_70 rfl (lv_at hl 2 rfl) ?_
      refine r_get S hh hz hin 21 (by decide) rfl rfl (by decide +kernel) dX6_outside_71 ?_
      refine lv_if_ne (tgt := 81) hx hb dX6_outside_74 (by decide) (fun _ => ?_) (fun c => absurd (show (1 : Int32) = (0 : Int32) from c) (by decide))
      refine lv_iconst (v := 0) hx hb dX6_outside_81 (by decide) ?_
      exact k_iret hx hb hr hlk hh dX6_outside_82 (Nat.le_of_ble_eq_true rfl) (Nat.le_of_ble_eq_true rfl) (by
  have hT : outT x = 1 := if_neg (by assumption)
  exact ⟨congrArg (fun r => some (Value.int r)) (by rw [if_neg (by rw [hT]; decide)]), rfl, hz.cast (by rw [hT])⟩)
    · have d22 : ¬ (M 18 0) ≤ 0 := c22
      refine lv_aload_n hx hb dX6_outside_25 rfl (lv_at hl 2 rfl) ?_
      refine r_get S hh hz hin 21 (by decide) rfl rfl (by decide +kernel) dX6_outside_26 ?_
      refine lv_if_ne (tgt := 70) hx hb dX6_outside_29 (by decide) (fun _ => ?_) (fun c => absurd (show (1 : Int32) = (0 : Int32) from c) (by decide))
      refine lv_aload_n hx hb dX6_outside_70 rfl (lv_at hl 2 rfl) ?_
      refine r_get S hh hz hin 21 (by decide) rfl rfl (by decide +kernel) dX6_outside_71 ?_
      refine lv_if_ne (tgt := 81) hx hb dX6_outside_74 (by decide) (fun _ => ?_) (fun c => absurd (show (1 : Int32) = (0 : Int32) from c) (by decide))
      refine lv_iconst (v := 0) hx hb dX6_outside_81 (by decide) ?_
      exact k_iret hx hb hr hlk hh dX6_outside_82 (Nat.le_of_ble_eq_true rfl) (Nat.le_of_ble_eq_true rfl) (by
  have hT : outT x = 1 := if_neg (by assumption)
  exact ⟨congrArg (fun r => some (Value.int r)) (by rw [if_neg (by rw [hT]; decide)]), rfl, hz.cast (by rw [hT])⟩)
end
section
theorem end_21 (M : MS) (i : Nat) : endF M i 21 = M 21 := by
  unfold endF
  split <;> rfl
theorem cast_21 (M : MS) (i : Nat) : castF M i 21 = M 21 := by
  unfold castF
  split
  · exact end_21 M i
  · rfl
theorem atHulk_21 (M : MS) (i : Nat) : atHulkF M i 21 = M 21 := by
  unfold atHulkF
  split
  · exact cast_21 M i
  · split
    · exact cast_21 M i
    · rfl
theorem atSteamer_21 (M : MS) (i : Nat) : atSteamerF M i 21 = M 21 := by
  unfold atSteamerF
  split
  · rfl
  · split <;> rfl
theorem goOn_21 (M : MS) (i : Nat) : goOnF M i 21 = M 21 := by
  unfold goOnF goF
  split
  · split
    · rfl
    · exact end_21 _ i
  · rfl
theorem work_21 (M : MS) (i : Nat) : workF M i 21 = M 21 := by
  unfold workF placeF
  split
  · exact atHulk_21 _ i
  · split
    · exact atSteamer_21 _ i
    · exact goOn_21 _ i
theorem leaveStep_21 (M : MS) (s i : Nat) : leaveStep M s i 21 = M 21 := by
  unfold leaveStep
  split
  · rfl
  · split
    · split
      · exact end_21 M i
      · split <;> rfl
    · rfl
theorem leaveLoop_21 (M : MS) (s : Nat) : ∀ n, leaveLoop M s n 21 = M 21
  | 0 => rfl
  | n + 1 => (leaveStep_21 _ s n).trans (leaveLoop_21 M s n)
theorem leave_21 (M : MS) (s n : Nat) : leaveF M s n 21 = M 21 := leaveLoop_21 _ s n
theorem rest_21 (M : MS) : ∀ n, restLoop M n 21 = M 21
  | 0 => rfl
  | n + 1 => (show restLoop M (n + 1) 21 = restLoop M n 21 from rfl).trans (rest_21 M n)
theorem buoy_21 (M : MS) (ns : Nat) : ∀ n, buoyLoop M ns n 21 = M 21
  | 0 => rfl
  | n + 1 => (show buoyLoop M ns (n + 1) 21 = buoyLoop M ns n 21 from rfl).trans (buoy_21 M ns n)
theorem workLoop_21 (M : MS) : ∀ n, workLoop M n 21 = M 21
  | 0 => rfl
  | n + 1 => by
    unfold workLoop
    split
    · exact workLoop_21 M n
    · exact (work_21 _ n).trans (workLoop_21 M n)
theorem gone_21 (M : MS) (nl : Nat) : ∀ n, (goneLoop M nl n).1 21 = M 21
  | 0 => rfl
  | n + 1 => by
    unfold goneLoop goneStep
    split
    · exact gone_21 M nl n
    · split
      · exact (leave_21 _ n nl).trans (gone_21 M nl n)
      · split
        · exact (leave_21 _ n nl).trans (gone_21 M nl n)
        · exact gone_21 M nl n
theorem hour_21 (M : MS) (nl ng ns : Nat) : (hourF M nl ng ns).1 21 = M 21 := (gone_21 _ nl ns).trans ((show scM (midF M nl ng ns) 19 (midF M nl ng ns 19 0 + 1) 21 = midF M nl ng ns 21 from rfl).trans ((workLoop_21 _ nl).trans ((buoy_21 _ ns ns).trans (rest_21 M ng))))
theorem hours_21 (M : MS) (nl ng ns : Nat) : ∀ n, (hoursLoop M nl ng ns n).1 21 = M 21
  | 0 => rfl
  | n + 1 => (hour_21 _ nl ng ns).trans (hours_21 M nl ng ns n)
theorem hours21 (M : MS) (nl ng ns i : Nat) : (hoursLoop (scM M 21 0) nl ng ns i).1 21 0 = 0 := by
  rw [hours_21]
  rfl

set_option maxRecDepth 100000 in
set_option maxHeartbeats 4000000 in
theorem c_leave {l : Launch} {κ : Kx} {xm : Nat} {b : Nat → Nat} {M : MS} {L : List Nat} {f0 f : Nat → va_E} (hz : ZR κ xm b M L f0 f) {nh nl ng ns : Nat} (hw : wfM M nh nl ng ns) {t : Nat} (htt : t < 600) : PM l κ yX6_leave wsX6_leave ({ frames := 1, cells := 0, slots := 0, locals := 22 } : Room) [.ref xm, .int (nI t)] L f (fun v L1 f1 => v = none ∧ L = L1 ∧ ZR κ xm b (leaveF M t nl) L f f1) noX 0 0 := by
  refine PM.mk (cc := cX6_leave) (maxL := 3) (ret := none) (by decide) rfl (Nat.le_of_ble_eq_true rfl) ?_
  intro p e s m args below meth c ls hx hb hml hr hlk hnm hown hts ht hh hl
  have hl : lv_has ls 3 [(0, .ref xm), (1, .int (nI t))] := hl
  have S : CallFix p m c cX6_leave 3 s args wsX6_leave RX6 := ⟨hx, hb, hml, hown, hts⟩
  have hin : ∀ w ∈ wsX60, w ∈ wsX6_leave := by decide +kernel
  have hz := hz.self
  obtain ⟨b15, b16, b17, b18⟩ := id hw.2.1
  refine lv_aload_n hx hb dX6_leave_0 rfl (lv_at hl 0 rfl) ?_
  refine r_get S hh hz hin 14 (by decide) rfl rfl (by decide +kernel) dX6_leave_1 ?_
  refine lv_iload_n hx hb dX6_leave_4 rfl (lv_at hl 1 rfl) ?_
  refine lv_aload_n hx hb dX6_leave_5 rfl (lv_at hl 0 rfl) ?_
  refine r_get S hh hz hin 12 (by decide) rfl rfl (by decide +kernel) dX6_leave_6 ?_
  refine lv_iload_n hx hb dX6_leave_9 rfl (lv_at hl 1 rfl) ?_
  refine r_ald (k := 12) (i := t) S hh hz (by decide) rfl htt dX6_leave_10 ?_
  refine lv_if_ne (tgt := 18) hx hb dX6_leave_11 (by decide) (fun c11 => ?_) (fun c11 => ?_)
  · refine lv_iconst (v := 3) hx hb dX6_leave_18 (by decide) ?_
    refine r_ast (k := 14) (i := t) S hh hz (by decide) rfl htt dX6_leave_19 (fun f9 H locs hh hz => ?_)
    refine lv_iconst (v := 0) hx hb dX6_leave_20 (by decide) ?_
    refine lv_istore_n (lv' := [(2, .int 0), (0, .ref xm), (1, .int (nI t))]) hx hb dX6_leave_21 rfl hl (by decide) rfl (fun ls hl => ?_)
    have hw2 : wfM (stM M 14 t 3) nh nl ng ns := hw.keep (Keep.rf.st (by decide))
    have loop : ∀ (n i : Nat), i ≤ nl → nl + 1 ≤ i + n → ∀ (f9 : Nat → va_E) (H : Heap) (locs : List Loc), HH κ L f9 s H locs → ZR κ xm b (leaveLoop (stM M 14 t 3) t i) L f f9 → ∀ ls : Array Slot, lv_has ls 3 [(0, .ref xm), (1, .int (nI t)), (2, .int (nI i))] → W p l e ({ frames := 1, cells := 0, slots := 0, locals := 22 } : Room) s m args below meth c H locs 0 0 (vx_MQ below (PQ κ (fun v L1 f1 => v = none ∧ L = L1 ∧ ZR κ xm b (leaveF M t nl) L f f1)) (PX κ L f noX) args s 0 0 (kA κ)) (F0 m 22 ls []) := by
      intro n
      induction n with
      | zero =>
        intro i  h1 h2
        exact absurd h2 (by omega)
      | succ n ih =>
        intro i  hi hin3 f9 H locs hh hz ls hl
        have hwi := hw2.keep (leaveLoop_keep Keep.rf t i)
        refine lv_iload_n hx hb dX6_leave_22 rfl (lv_at hl 2 rfl) ?_
        refine lv_aload_n hx hb dX6_leave_23 rfl (lv_at hl 0 rfl) ?_
        refine r_get S hh hz hin 16 (by decide) rfl rfl (by decide +kernel) dX6_leave_24 ?_
        refine lv_icmp_ge (tgt := 91) hx hb dX6_leave_27 (by decide) (fun c27 => ?_) (fun c27 => ?_)
        · have hie : i = nl := by
            rcases Nat.lt_or_ge i nl with q | q
            · exact absurd c27 (by rw [show leaveLoop _ t i 16 0 = nI nl from hwi.1.2.1]; exact nI_ge q (by omega))
            · omega
          exact k_vret hx hb hr hlk hh dX6_leave_91 (Nat.le_of_ble_eq_true rfl) (Nat.le_of_ble_eq_true rfl) ⟨rfl, rfl, hz.cast (by rw [hie]; unfold leaveF; first | rw [if_pos (by assumption)] | rw [if_neg (by assumption)])⟩
        · have hlt : i < nl := by
            rcases Nat.lt_or_ge i nl with q | q
            · exact q
            · exact absurd (by rw [show leaveLoop _ t i 16 0 = nI nl from hwi.1.2.1]; exact nI_le q (by omega)) c27
          have h6 : i < 6 := by omega
          refine lv_aload_n hx hb dX6_leave_30 rfl (lv_at hl 0 rfl) ?_
          refine r_get S hh hz hin 6 (by decide) rfl rfl (by decide +kernel) dX6_leave_31 ?_
          refine lv_iload_n hx hb dX6_leave_34 rfl (lv_at hl 2 rfl) ?_
          refine r_ald (k := 6) (i := i) S hh hz (by decide) rfl h6 dX6_leave_35 ?_
          refine lv_iconst (v := (-1)) hx hb dX6_leave_36 (by decide) ?_
          refine lv_icmp_eq (tgt := 85) hx hb dX6_leave_37 (by decide) (fun c37 => ?_) (fun c37 => ?_)
          · obtain ⟨x85, e85⟩ : ∃ y : Int32, y = (nI i) + 1 := ⟨_, rfl⟩
            refine lv_iinc (v := x85) (lv' := [(2, .int x85), (0, .ref xm), (1, .int (nI t))]) hx hb dX6_leave_85 hl (k := 2) rfl (by rw [e85]; rfl) (by decide) rfl (fun ls hl => ?_)
            refine lv_goto (tgt := 22) hx hb dX6_leave_88 (by decide) ?_
            obtain rfl : x85 = nI (i + 1) := by rw [e85]; exact nI_1 i
            exact ih (i + 1) (by omega) (by omega) _ _ _ hh (hz.cast (by rw [leaveLoop, leaveStep]; (repeat' split); all_goals first | rfl | contradiction)) ls (lv_sub hl [1, 2, 0] rfl)
          · have hlw := hwi.lw hlt c37
            refine lv_aload_n hx hb dX6_leave_40 rfl (lv_at hl 0 rfl) ?_
            refine r_get S hh hz hin 7 (by decide) rfl rfl (by decide +kernel) dX6_leave_41 ?_
            refine lv_iload_n hx hb dX6_leave_44 rfl (lv_at hl 2 rfl) ?_
            refine r_ald (k := 7) (i := i) S hh hz (by decide) rfl h6 dX6_leave_45 ?_
            refine lv_iload_n hx hb dX6_leave_46 rfl (lv_at hl 1 rfl) ?_
            refine lv_icmp_eq (tgt := 53) hx hb dX6_leave_47 (by decide) (fun c47 => ?_) (fun c47 => ?_)
            · refine lv_aload_n hx hb dX6_leave_53 rfl (lv_at hl 0 rfl) ?_
              refine r_get S hh hz hin 4 (by decide) rfl rfl (by decide +kernel) dX6_leave_54 ?_
              refine lv_iload_n hx hb dX6_leave_57 rfl (lv_at hl 2 rfl) ?_
              refine r_ald (k := 4) (i := i) S hh hz (by decide) rfl h6 dX6_leave_58 ?_
              refine lv_if_ne (tgt := 70) hx hb dX6_leave_59 (by decide) (fun c59 => ?_) (fun c59 => ?_)
              · refine lv_aload_n hx hb dX6_leave_70 rfl (lv_at hl 0 rfl) ?_
                refine r_get S hh hz hin 4 (by decide) rfl rfl (by decide +kernel) dX6_leave_71 ?_
                refine lv_iload_n hx hb dX6_leave_74 rfl (lv_at hl 2 rfl) ?_
                refine r_ald (k := 4) (i := i) S hh hz (by decide) rfl h6 dX6_leave_75 ?_
                refine lv_iconst (v := 3) hx hb dX6_leave_76 (by decide) ?_
                refine lv_icmp_ge (tgt := 85) hx hb dX6_leave_77 (by decide) (fun c77 => ?_) (fun c77 => ?_)
                · obtain ⟨x85, e85⟩ : ∃ y : Int32, y = (nI i) + 1 := ⟨_, rfl⟩
                  refine lv_iinc (v := x85) (lv' := [(2, .int x85), (0, .ref xm), (1, .int (nI t))]) hx hb dX6_leave_85 hl (k := 2) rfl (by rw [e85]; rfl) (by decide) rfl (fun ls hl => ?_)
                  refine lv_goto (tgt := 22) hx hb dX6_leave_88 (by decide) ?_
                  obtain rfl : x85 = nI (i + 1) := by rw [e85]; exact nI_1 i
                  exact ih (i + 1) (by omega) (by omega) _ _ _ hh (hz.cast (by rw [leaveLoop, leaveStep]; (repeat' split); all_goals first | rfl | contradiction)) ls (lv_sub hl [1, 2, 0] rfl)
                · refine lv_aload_n hx hb dX6_leave_80 rfl (lv_at hl 0 rfl) ?_
                  refine lv_iload_n hx hb dX6_leave_81 rfl (lv_at hl 2 rfl) ?_
                  refine k_callV0 (As := [.int (nI i)]) (c_turnHome hz h6) S hh (cwV 1 hts gX6_leave_X6_turnHome rfl rfl rfl (by decide +kernel) ⟨(Nat.le_of_ble_eq_true rfl), (Nat.le_of_ble_eq_true rfl)⟩) hz.1.1 hz.1.2 (q := (RX6, TX6, 22)) rfl rfl rfl hl.1 rfl (Nat.le_of_ble_eq_true rfl) dX6_leave_82 ⟨(Nat.le_of_ble_eq_true rfl), (Nat.le_of_ble_eq_true rfl)⟩ (fun v L1 f1 H locs hp hh => ?_)
                  obtain ⟨rfl, hL1, hz1⟩ := hp
                  subst hL1
                  have hz := hz.trans hz1
                  obtain ⟨x85, e85⟩ : ∃ y : Int32, y = (nI i) + 1 := ⟨_, rfl⟩
                  refine lv_iinc (v := x85) (lv' := [(2, .int x85), (0, .ref xm), (1, .int (nI t))]) hx hb dX6_leave_85 hl (k := 2) rfl (by rw [e85]; rfl) (by decide) rfl (fun ls hl => ?_)
                  refine lv_goto (tgt := 22) hx hb dX6_leave_88 (by decide) ?_
                  obtain rfl : x85 = nI (i + 1) := by rw [e85]; exact nI_1 i
                  exact ih (i + 1) (by omega) (by omega) _ _ _ hh (hz.cast (by rw [leaveLoop, leaveStep]; (repeat' split); all_goals first | rfl | contradiction)) ls (lv_sub hl [1, 2, 0] rfl)
              · refine lv_aload_n hx hb dX6_leave_62 rfl (lv_at hl 0 rfl) ?_
                refine lv_iload_n hx hb dX6_leave_63 rfl (lv_at hl 2 rfl) ?_
                refine k_callV0 (As := [.int (nI i)]) (c_endOrder hz h6 hlw) S hh (cwV 1 hts gX6_leave_X6_endOrder rfl rfl rfl (by decide +kernel) ⟨(Nat.le_of_ble_eq_true rfl), (Nat.le_of_ble_eq_true rfl)⟩) hz.1.1 hz.1.2 (q := (RX6, TX6, 22)) rfl rfl rfl hl.1 rfl (Nat.le_of_ble_eq_true rfl) dX6_leave_64 ⟨(Nat.le_of_ble_eq_true rfl), (Nat.le_of_ble_eq_true rfl)⟩ (fun v L1 f1 H locs hp hh => ?_)
                obtain ⟨rfl, hL1, hz1⟩ := hp
                subst hL1
                have hz := hz.trans hz1
                refine lv_goto (tgt := 85) hx hb dX6_leave_67 (by decide) ?_
                obtain ⟨x85, e85⟩ : ∃ y : Int32, y = (nI i) + 1 := ⟨_, rfl⟩
                refine lv_iinc (v := x85) (lv' := [(2, .int x85), (0, .ref xm), (1, .int (nI t))]) hx hb dX6_leave_85 hl (k := 2) rfl (by rw [e85]; rfl) (by decide) rfl (fun ls hl => ?_)
                refine lv_goto (tgt := 22) hx hb dX6_leave_88 (by decide) ?_
                obtain rfl : x85 = nI (i + 1) := by rw [e85]; exact nI_1 i
                exact ih (i + 1) (by omega) (by omega) _ _ _ hh (hz.cast (by rw [leaveLoop, leaveStep]; (repeat' split); all_goals first | rfl | contradiction)) ls (lv_sub hl [1, 2, 0] rfl)
            · refine lv_goto (tgt := 85) hx hb dX6_leave_50 (by decide) ?_
              obtain ⟨x85, e85⟩ : ∃ y : Int32, y = (nI i) + 1 := ⟨_, rfl⟩
              refine lv_iinc (v := x85) (lv' := [(2, .int x85), (0, .ref xm), (1, .int (nI t))]) hx hb dX6_leave_85 hl (k := 2) rfl (by rw [e85]; rfl) (by decide) rfl (fun ls hl => ?_)
              refine lv_goto (tgt := 22) hx hb dX6_leave_88 (by decide) ?_
              obtain rfl : x85 = nI (i + 1) := by rw [e85]; exact nI_1 i
              exact ih (i + 1) (by omega) (by omega) _ _ _ hh (hz.cast (by rw [leaveLoop, leaveStep]; (repeat' split); all_goals first | rfl | contradiction)) ls (lv_sub hl [1, 2, 0] rfl)
    exact loop (nl + 1) 0 (Nat.zero_le _) (by omega) _ _ _ hh hz ls (lv_sub hl [1, 2, 0] rfl)
  · refine lv_iconst (v := 2) hx hb dX6_leave_14 (by decide) ?_
    refine lv_goto (tgt := 19) hx hb dX6_leave_15 (by decide) ?_
    refine r_ast (k := 14) (i := t) S hh hz (by decide) rfl htt dX6_leave_19 (fun f9 H locs hh hz => ?_)
    refine lv_iconst (v := 0) hx hb dX6_leave_20 (by decide) ?_
    refine lv_istore_n (lv' := [(2, .int 0), (0, .ref xm), (1, .int (nI t))]) hx hb dX6_leave_21 rfl hl (by decide) rfl (fun ls hl => ?_)
    have hw2 : wfM (stM M 14 t 2) nh nl ng ns := hw.keep (Keep.rf.st (by decide))
    have loop : ∀ (n i : Nat), i ≤ nl → nl + 1 ≤ i + n → ∀ (f9 : Nat → va_E) (H : Heap) (locs : List Loc), HH κ L f9 s H locs → ZR κ xm b (leaveLoop (stM M 14 t 2) t i) L f f9 → ∀ ls : Array Slot, lv_has ls 3 [(0, .ref xm), (1, .int (nI t)), (2, .int (nI i))] → W p l e ({ frames := 1, cells := 0, slots := 0, locals := 22 } : Room) s m args below meth c H locs 0 0 (vx_MQ below (PQ κ (fun v L1 f1 => v = none ∧ L = L1 ∧ ZR κ xm b (leaveF M t nl) L f f1)) (PX κ L f noX) args s 0 0 (kA κ)) (F0 m 22 ls []) := by
      intro n
      induction n with
      | zero =>
        intro i  h1 h2
        exact absurd h2 (by omega)
      | succ n ih =>
        intro i  hi hin3 f9 H locs hh hz ls hl
        have hwi := hw2.keep (leaveLoop_keep Keep.rf t i)
        refine lv_iload_n hx hb dX6_leave_22 rfl (lv_at hl 2 rfl) ?_
        refine lv_aload_n hx hb dX6_leave_23 rfl (lv_at hl 0 rfl) ?_
        refine r_get S hh hz hin 16 (by decide) rfl rfl (by decide +kernel) dX6_leave_24 ?_
        refine lv_icmp_ge (tgt := 91) hx hb dX6_leave_27 (by decide) (fun c27 => ?_) (fun c27 => ?_)
        · have hie : i = nl := by
            rcases Nat.lt_or_ge i nl with q | q
            · exact absurd c27 (by rw [show leaveLoop _ t i 16 0 = nI nl from hwi.1.2.1]; exact nI_ge q (by omega))
            · omega
          exact k_vret hx hb hr hlk hh dX6_leave_91 (Nat.le_of_ble_eq_true rfl) (Nat.le_of_ble_eq_true rfl) ⟨rfl, rfl, hz.cast (by rw [hie]; unfold leaveF; first | rw [if_pos (by assumption)] | rw [if_neg (by assumption)])⟩
        · have hlt : i < nl := by
            rcases Nat.lt_or_ge i nl with q | q
            · exact q
            · exact absurd (by rw [show leaveLoop _ t i 16 0 = nI nl from hwi.1.2.1]; exact nI_le q (by omega)) c27
          have h6 : i < 6 := by omega
          refine lv_aload_n hx hb dX6_leave_30 rfl (lv_at hl 0 rfl) ?_
          refine r_get S hh hz hin 6 (by decide) rfl rfl (by decide +kernel) dX6_leave_31 ?_
          refine lv_iload_n hx hb dX6_leave_34 rfl (lv_at hl 2 rfl) ?_
          refine r_ald (k := 6) (i := i) S hh hz (by decide) rfl h6 dX6_leave_35 ?_
          refine lv_iconst (v := (-1)) hx hb dX6_leave_36 (by decide) ?_
          refine lv_icmp_eq (tgt := 85) hx hb dX6_leave_37 (by decide) (fun c37 => ?_) (fun c37 => ?_)
          · obtain ⟨x85, e85⟩ : ∃ y : Int32, y = (nI i) + 1 := ⟨_, rfl⟩
            refine lv_iinc (v := x85) (lv' := [(2, .int x85), (0, .ref xm), (1, .int (nI t))]) hx hb dX6_leave_85 hl (k := 2) rfl (by rw [e85]; rfl) (by decide) rfl (fun ls hl => ?_)
            refine lv_goto (tgt := 22) hx hb dX6_leave_88 (by decide) ?_
            obtain rfl : x85 = nI (i + 1) := by rw [e85]; exact nI_1 i
            exact ih (i + 1) (by omega) (by omega) _ _ _ hh (hz.cast (by rw [leaveLoop, leaveStep]; (repeat' split); all_goals first | rfl | contradiction)) ls (lv_sub hl [1, 2, 0] rfl)
          · have hlw := hwi.lw hlt c37
            refine lv_aload_n hx hb dX6_leave_40 rfl (lv_at hl 0 rfl) ?_
            refine r_get S hh hz hin 7 (by decide) rfl rfl (by decide +kernel) dX6_leave_41 ?_
            refine lv_iload_n hx hb dX6_leave_44 rfl (lv_at hl 2 rfl) ?_
            refine r_ald (k := 7) (i := i) S hh hz (by decide) rfl h6 dX6_leave_45 ?_
            refine lv_iload_n hx hb dX6_leave_46 rfl (lv_at hl 1 rfl) ?_
            refine lv_icmp_eq (tgt := 53) hx hb dX6_leave_47 (by decide) (fun c47 => ?_) (fun c47 => ?_)
            · refine lv_aload_n hx hb dX6_leave_53 rfl (lv_at hl 0 rfl) ?_
              refine r_get S hh hz hin 4 (by decide) rfl rfl (by decide +kernel) dX6_leave_54 ?_
              refine lv_iload_n hx hb dX6_leave_57 rfl (lv_at hl 2 rfl) ?_
              refine r_ald (k := 4) (i := i) S hh hz (by decide) rfl h6 dX6_leave_58 ?_
              refine lv_if_ne (tgt := 70) hx hb dX6_leave_59 (by decide) (fun c59 => ?_) (fun c59 => ?_)
              · refine lv_aload_n hx hb dX6_leave_70 rfl (lv_at hl 0 rfl) ?_
                refine r_get S hh hz hin 4 (by decide) rfl rfl (by decide +kernel) dX6_leave_71 ?_
                refine lv_iload_n hx hb dX6_leave_74 rfl (lv_at hl 2 rfl) ?_
                refine r_ald (k := 4) (i := i) S hh hz (by decide) rfl h6 dX6_leave_75 ?_
                refine lv_iconst (v := 3) hx hb dX6_leave_76 (by decide) ?_
                refine lv_icmp_ge (tgt := 85) hx hb dX6_leave_77 (by decide) (fun c77 => ?_) (fun c77 => ?_)
                · obtain ⟨x85, e85⟩ : ∃ y : Int32, y = (nI i) + 1 := ⟨_, rfl⟩
                  refine lv_iinc (v := x85) (lv' := [(2, .int x85), (0, .ref xm), (1, .int (nI t))]) hx hb dX6_leave_85 hl (k := 2) rfl (by rw [e85]; rfl) (by decide) rfl (fun ls hl => ?_)
                  refine lv_goto (tgt := 22) hx hb dX6_leave_88 (by decide) ?_
                  obtain rfl : x85 = nI (i + 1) := by rw [e85]; exact nI_1 i
                  exact ih (i + 1) (by omega) (by omega) _ _ _ hh (hz.cast (by rw [leaveLoop, leaveStep]; (repeat' split); all_goals first | rfl | contradiction)) ls (lv_sub hl [1, 2, 0] rfl)
                · refine lv_aload_n hx hb dX6_leave_80 rfl (lv_at hl 0 rfl) ?_
                  refine lv_iload_n hx hb dX6_leave_81 rfl (lv_at hl 2 rfl) ?_
                  refine k_callV0 (As := [.int (nI i)]) (c_turnHome hz h6) S hh (cwV 1 hts gX6_leave_X6_turnHome rfl rfl rfl (by decide +kernel) ⟨(Nat.le_of_ble_eq_true rfl), (Nat.le_of_ble_eq_true rfl)⟩) hz.1.1 hz.1.2 (q := (RX6, TX6, 22)) rfl rfl rfl hl.1 rfl (Nat.le_of_ble_eq_true rfl) dX6_leave_82 ⟨(Nat.le_of_ble_eq_true rfl), (Nat.le_of_ble_eq_true rfl)⟩ (fun v L1 f1 H locs hp hh => ?_)
                  obtain ⟨rfl, hL1, hz1⟩ := hp
                  subst hL1
                  have hz := hz.trans hz1
                  obtain ⟨x85, e85⟩ : ∃ y : Int32, y = (nI i) + 1 := ⟨_, rfl⟩
                  refine lv_iinc (v := x85) (lv' := [(2, .int x85), (0, .ref xm), (1, .int (nI t))]) hx hb dX6_leave_85 hl (k := 2) rfl (by rw [e85]; rfl) (by decide) rfl (fun ls hl => ?_)
                  refine lv_goto (tgt := 22) hx hb dX6_leave_88 (by decide) ?_
                  obtain rfl : x85 = nI (i + 1) := by rw [e85]; exact nI_1 i
                  exact ih (i + 1) (by omega) (by omega) _ _ _ hh (hz.cast (by rw [leaveLoop, leaveStep]; (repeat' split); all_goals first | rfl | contradiction)) ls (lv_sub hl [1, 2, 0] rfl)
              · refine lv_aload_n hx hb dX6_leave_62 rfl (lv_at hl 0 rfl) ?_
                refine lv_iload_n hx hb dX6_leave_63 rfl (lv_at hl 2 rfl) ?_
                refine k_callV0 (As := [.int (nI i)]) (c_endOrder hz h6 hlw) S hh (cwV 1 hts gX6_leave_X6_endOrder rfl rfl rfl (by decide +kernel) ⟨(Nat.le_of_ble_eq_true rfl), (Nat.le_of_ble_eq_true rfl)⟩) hz.1.1 hz.1.2 (q := (RX6, TX6, 22)) rfl rfl rfl hl.1 rfl (Nat.le_of_ble_eq_true rfl) dX6_leave_64 ⟨(Nat.le_of_ble_eq_true rfl), (Nat.le_of_ble_eq_true rfl)⟩ (fun v L1 f1 H locs hp hh => ?_)
                obtain ⟨rfl, hL1, hz1⟩ := hp
                subst hL1
                have hz := hz.trans hz1
                refine lv_goto (tgt := 85) hx hb dX6_leave_67 (by decide) ?_
                obtain ⟨x85, e85⟩ : ∃ y : Int32, y = (nI i) + 1 := ⟨_, rfl⟩
                refine lv_iinc (v := x85) (lv' := [(2, .int x85), (0, .ref xm), (1, .int (nI t))]) hx hb dX6_leave_85 hl (k := 2) rfl (by rw [e85]; rfl) (by decide) rfl (fun ls hl => ?_)
                refine lv_goto (tgt := 22) hx hb dX6_leave_88 (by decide) ?_
                obtain rfl : x85 = nI (i + 1) := by rw [e85]; exact nI_1 i
                exact ih (i + 1) (by omega) (by omega) _ _ _ hh (hz.cast (by rw [leaveLoop, leaveStep]; (repeat' split); all_goals first | rfl | contradiction)) ls (lv_sub hl [1, 2, 0] rfl)
            · refine lv_goto (tgt := 85) hx hb dX6_leave_50 (by decide) ?_
              obtain ⟨x85, e85⟩ : ∃ y : Int32, y = (nI i) + 1 := ⟨_, rfl⟩
              refine lv_iinc (v := x85) (lv' := [(2, .int x85), (0, .ref xm), (1, .int (nI t))]) hx hb dX6_leave_85 hl (k := 2) rfl (by rw [e85]; rfl) (by decide) rfl (fun ls hl => ?_)
              refine lv_goto (tgt := 22) hx hb dX6_leave_88 (by decide) ?_
              obtain rfl : x85 = nI (i + 1) := by rw [e85]; exact nI_1 i
              exact ih (i + 1) (by omega) (by omega) _ _ _ hh (hz.cast (by rw [leaveLoop, leaveStep]; (repeat' split); all_goals first | rfl | contradiction)) ls (lv_sub hl [1, 2, 0] rfl)
    exact loop (nl + 1) 0 (Nat.zero_le _) (by omega) _ _ _ hh hz ls (lv_sub hl [1, 2, 0] rfl)

set_option maxRecDepth 100000 in
set_option maxHeartbeats 4000000 in
theorem c_hourOnce {l : Launch} {κ : Kx} {xm : Nat} {b : Nat → Nat} {M : MS} {L : List Nat} {f0 f : Nat → va_E} (hz : ZR κ xm b M L f0 f) {nh nl ng ns : Nat} (hw : wfM M nh nl ng ns) : PM l κ yX6_hourOnce wsX6_hourOnce ({ frames := 4, cells := 0, slots := 0, locals := 89 } : Room) [.ref xm] L f (fun v L1 f1 => v = some (.int (hourF M nl ng ns).2) ∧ L = L1 ∧ ZR κ xm b (hourF M nl ng ns).1 L f f1) noX 0 0 := by
  refine PM.mk (cc := cX6_hourOnce) (maxL := 3) (ret := (some .int)) (by decide) rfl (Nat.le_of_ble_eq_true rfl) ?_
  intro p e s m args below meth c ls hx hb hml hr hlk hnm hown hts ht hh hl
  have hl : lv_has ls 3 [(0, .ref xm)] := hl
  have S : CallFix p m c cX6_hourOnce 3 s args wsX6_hourOnce RX6 := ⟨hx, hb, hml, hown, hts⟩
  have hin : ∀ w ∈ wsX60, w ∈ wsX6_hourOnce := by decide +kernel
  have hz := hz.self
  obtain ⟨b15, b16, b17, b18⟩ := id hw.2.1
  refine lv_iconst (v := 0) hx hb dX6_hourOnce_0 (by decide) ?_
  refine lv_istore_n (lv' := [(1, .int 0), (0, .ref xm)]) hx hb dX6_hourOnce_1 rfl hl (by decide) rfl (fun ls hl => ?_)
  have loop : ∀ (n i : Nat), i ≤ ng → ng + 1 ≤ i + n → ∀ (f9 : Nat → va_E) (H : Heap) (locs : List Loc), HH κ L f9 s H locs → ZR κ xm b (restLoop M i) L f f9 → ∀ ls : Array Slot, lv_has ls 3 [(0, .ref xm), (1, .int (nI i))] → W p l e ({ frames := 4, cells := 0, slots := 0, locals := 89 } : Room) s m args below meth c H locs 0 0 (vx_MQ below (PQ κ (fun v L1 f1 => v = some (.int (hourF M nl ng ns).2) ∧ L = L1 ∧ ZR κ xm b (hourF M nl ng ns).1 L f f1)) (PX κ L f noX) args s 0 0 (kA κ)) (F0 m 2 ls []) := by
    intro n
    induction n with
    | zero =>
      intro i  h1 h2
      exact absurd h2 (by omega)
    | succ n ih =>
      intro i  hi hin3 f9 H locs hh hz ls hl
      have hwi := hw.keep (rest_keep Keep.rf i)
      refine lv_iload_n hx hb dX6_hourOnce_2 rfl (lv_at hl 1 rfl) ?_
      refine lv_aload_n hx hb dX6_hourOnce_3 rfl (lv_at hl 0 rfl) ?_
      refine r_get S hh hz hin 17 (by decide) rfl rfl (by decide +kernel) dX6_hourOnce_4 ?_
      refine lv_icmp_ge (tgt := 39) hx hb dX6_hourOnce_7 (by decide) (fun c7 => ?_) (fun c7 => ?_)
      · have hie : i = ng := by
          rcases Nat.lt_or_ge i ng with q | q
          · exact absurd c7 (by rw [show restLoop M i 17 0 = nI ng from hwi.1.2.2.1]; exact nI_ge q (by omega))
          · omega
        refine lv_iconst (v := 0) hx hb dX6_hourOnce_39 (by decide) ?_
        refine lv_istore_n (lv' := [(1, .int 0), (0, .ref xm)]) hx hb dX6_hourOnce_40 rfl hl (by decide) rfl (fun ls hl => ?_)
        have hw2 := hw.keep (rest_keep Keep.rf ng)
        have loop2 : ∀ (n i : Nat), i ≤ ns → ns + 1 ≤ i + n → ∀ (f9 : Nat → va_E) (H : Heap) (locs : List Loc), HH κ L f9 s H locs → ZR κ xm b (buoyLoop (restLoop M ng) ns i) L f f9 → ∀ ls : Array Slot, lv_has ls 3 [(0, .ref xm), (1, .int (nI i))] → W p l e ({ frames := 4, cells := 0, slots := 0, locals := 89 } : Room) s m args below meth c H locs 0 0 (vx_MQ below (PQ κ (fun v L1 f1 => v = some (.int (hourF M nl ng ns).2) ∧ L = L1 ∧ ZR κ xm b (hourF M nl ng ns).1 L f f1)) (PX κ L f noX) args s 0 0 (kA κ)) (F0 m 41 ls []) := by
          intro n
          induction n with
          | zero =>
            intro i  h1 h2
            exact absurd h2 (by omega)
          | succ n ih =>
            intro i  hi hin3 f9 H locs hh hz ls hl
            have hwi := hw2.keep (buoy_keep Keep.rf ns i)
            refine lv_iload_n hx hb dX6_hourOnce_41 rfl (lv_at hl 1 rfl) ?_
            refine lv_aload_n hx hb dX6_hourOnce_42 rfl (lv_at hl 0 rfl) ?_
            refine r_get S hh hz hin 18 (by decide) rfl rfl (by decide +kernel) dX6_hourOnce_43 ?_
            refine lv_icmp_ge (tgt := 89) hx hb dX6_hourOnce_46 (by decide) (fun c46 => ?_) (fun c46 => ?_)
            · have hie : i = ns := by
                rcases Nat.lt_or_ge i ns with q | q
                · exact absurd c46 (by rw [show buoyLoop (restLoop M ng) ns i 18 0 = nI ns from hwi.1.2.2.2]; exact nI_ge q (by omega))
                · omega
              refine lv_iconst (v := 0) hx hb dX6_hourOnce_89 (by decide) ?_
              refine lv_istore_n (lv' := [(1, .int 0), (0, .ref xm)]) hx hb dX6_hourOnce_90 rfl hl (by decide) rfl (fun ls hl => ?_)
              have hw3 := hw2.keep (buoy_keep Keep.rf ns ns)
              have loop3 : ∀ (n i : Nat), i ≤ nl → nl + 1 ≤ i + n → ∀ (f9 : Nat → va_E) (H : Heap) (locs : List Loc), HH κ L f9 s H locs → ZR κ xm b (workLoop (buoyLoop (restLoop M ng) ns ns) i) L f f9 → ∀ ls : Array Slot, lv_has ls 3 [(0, .ref xm), (1, .int (nI i))] → W p l e ({ frames := 4, cells := 0, slots := 0, locals := 89 } : Room) s m args below meth c H locs 0 0 (vx_MQ below (PQ κ (fun v L1 f1 => v = some (.int (hourF M nl ng ns).2) ∧ L = L1 ∧ ZR κ xm b (hourF M nl ng ns).1 L f f1)) (PX κ L f noX) args s 0 0 (kA κ)) (F0 m 91 ls []) := by
                intro n
                induction n with
                | zero =>
                  intro i  h1 h2
                  exact absurd h2 (by omega)
                | succ n ih =>
                  intro i  hi hin3 f9 H locs hh hz ls hl
                  have hwi := hw3.keep (workLoop_keep Keep.rf i)
                  refine lv_iload_n hx hb dX6_hourOnce_91 rfl (lv_at hl 1 rfl) ?_
                  refine lv_aload_n hx hb dX6_hourOnce_92 rfl (lv_at hl 0 rfl) ?_
                  refine r_get S hh hz hin 16 (by decide) rfl rfl (by decide +kernel) dX6_hourOnce_93 ?_
                  refine lv_icmp_ge (tgt := 120) hx hb dX6_hourOnce_96 (by decide) (fun c96 => ?_) (fun c96 => ?_)
                  · have hie : i = nl := by
                      rcases Nat.lt_or_ge i nl with q | q
                      · exact absurd c96 (by rw [show workLoop (buoyLoop (restLoop M ng) ns ns) i 16 0 = nI nl from hwi.1.2.1]; exact nI_ge q (by omega))
                      · omega
                    refine lv_iconst (v := 0) hx hb dX6_hourOnce_120 (by decide) ?_
                    refine lv_istore_n (lv' := [(1, .int 0), (0, .ref xm)]) hx hb dX6_hourOnce_121 rfl hl (by decide) rfl (fun ls hl => ?_)
                    refine lv_aload_n hx hb dX6_hourOnce_122 rfl (lv_at hl 1 rfl) ?_
                    refine lv_dup hx hb dX6_hourOnce_123 rfl ?_
                    refine r_get S hh hz hin 19 (by decide) rfl rfl (by decide +kernel) dX6_hourOnce_124 ?_
                    refine lv_iconst (v := 1) hx hb dX6_hourOnce_127 (by decide) ?_
                    refine lv_iadd hx hb dX6_hourOnce_128 ?_
                    refine r_put S hh hz hin 19 (by decide) rfl rfl rfl (by decide +kernel) dX6_hourOnce_129 (fun f9 H locs hh hz => ?_)
                    refine lv_iconst (v := 0) hx hb dX6_hourOnce_132 (by decide) ?_
                    refine lv_istore_n (lv' := [(2, .int 0), (1, .int 0), (0, .ref xm)]) hx hb dX6_hourOnce_133 rfl hl (by decide) rfl (fun ls hl => ?_)
                    have hw4 : wfM (scM (midF M nl ng ns) 19 (midF M nl ng ns 19 0 + 1)) nh nl ng ns := (hw3.keep (workLoop_keep Keep.rf nl)).keep (Keep.rf.sc (by decide))
                    have loop4 : ∀ (n i : Nat) (x1 : Int32), i ≤ ns → ns + 1 ≤ i + n → x1 = (goneLoop (scM (midF M nl ng ns) 19 (midF M nl ng ns 19 0 + 1)) nl i).2 → ∀ (f9 : Nat → va_E) (H : Heap) (locs : List Loc), HH κ L f9 s H locs → ZR κ xm b (goneLoop (scM (midF M nl ng ns) 19 (midF M nl ng ns 19 0 + 1)) nl i).1 L f f9 → ∀ ls : Array Slot, lv_has ls 3 [(0, .ref xm), (1, .int x1), (2, .int (nI i))] → W p l e ({ frames := 4, cells := 0, slots := 0, locals := 89 } : Room) s m args below meth c H locs 0 0 (vx_MQ below (PQ κ (fun v L1 f1 => v = some (.int (hourF M nl ng ns).2) ∧ L = L1 ∧ ZR κ xm b (hourF M nl ng ns).1 L f f1)) (PX κ L f noX) args s 0 0 (kA κ)) (F0 m 134 ls []) := by
                      intro n
                      induction n with
                      | zero =>
                        intro i x1 h1 h2
                        exact absurd h2 (by omega)
                      | succ n ih =>
                        intro i x1 hi hin3 ex1 f9 H locs hh hz ls hl
                        have hwi := hw4.keep (gone_keep Keep.rf nl i)
                        refine lv_iload_n hx hb dX6_hourOnce_134 rfl (lv_at hl 2 rfl) ?_
                        refine lv_aload_n hx hb dX6_hourOnce_135 rfl (lv_at hl 0 rfl) ?_
                        refine r_get S hh hz hin 18 (by decide) rfl rfl (by decide +kernel) dX6_hourOnce_136 ?_
                        refine lv_icmp_ge (tgt := 188) hx hb dX6_hourOnce_139 (by decide) (fun c139 => ?_) (fun c139 => ?_)
                        · have hie : i = ns := by
                            rcases Nat.lt_or_ge i ns with q | q
                            · exact absurd c139 (by rw [show (goneLoop (scM (midF M nl ng ns) 19 (midF M nl ng ns 19 0 + 1)) nl i).1 18 0 = nI ns from hwi.1.2.2.2]; exact nI_ge q (by omega))
                            · omega
                          refine lv_iload_n hx hb dX6_hourOnce_188 rfl (lv_at hl 1 rfl) ?_
                          exact k_iret hx hb hr hlk hh dX6_hourOnce_189 (Nat.le_of_ble_eq_true rfl) (Nat.le_of_ble_eq_true rfl) ⟨congrArg (fun r => some (Value.int r)) (by rw [ex1, hie]; rfl), rfl, hz.cast (by rw [hie]; rfl)⟩
                        · have hlt : i < ns := by
                            rcases Nat.lt_or_ge i ns with q | q
                            · exact q
                            · exact absurd (by rw [show (goneLoop (scM (midF M nl ng ns) 19 (midF M nl ng ns 19 0 + 1)) nl i).1 18 0 = nI ns from hwi.1.2.2.2]; exact nI_le q (by omega)) c139
                          have h6 : i < 600 := by omega
                          refine lv_aload_n hx hb dX6_hourOnce_142 rfl (lv_at hl 0 rfl) ?_
                          refine r_get S hh hz hin 14 (by decide) rfl rfl (by decide +kernel) dX6_hourOnce_143 ?_
                          refine lv_iload_n hx hb dX6_hourOnce_146 rfl (lv_at hl 2 rfl) ?_
                          refine r_ald (k := 14) (i := i) S hh hz (by decide) rfl h6 dX6_hourOnce_147 ?_
                          refine lv_iconst (v := 2) hx hb dX6_hourOnce_148 (by decide) ?_
                          refine lv_icmp_ge (tgt := 182) hx hb dX6_hourOnce_149 (by decide) (fun c149 => ?_) (fun c149 => ?_)
                          · obtain ⟨x182, e182⟩ : ∃ y : Int32, y = (nI i) + 1 := ⟨_, rfl⟩
                            refine lv_iinc (v := x182) (lv' := [(2, .int x182), (0, .ref xm), (1, .int x1)]) hx hb dX6_hourOnce_182 hl (k := 2) rfl (by rw [e182]; rfl) (by decide) rfl (fun ls hl => ?_)
                            refine lv_goto (tgt := 134) hx hb dX6_hourOnce_185 (by decide) ?_
                            obtain rfl : x182 = nI (i + 1) := by rw [e182]; exact nI_1 i
                            exact ih (i + 1) x1 (by omega) (by omega) (by rw [goneLoop, goneStep]; first | (rw [ex1]; (repeat' split); all_goals first | rfl | contradiction) | ((repeat' split); all_goals first | rfl | contradiction)) _ _ _ hh (hz.cast (by rw [goneLoop, goneStep]; (repeat' split); all_goals first | rfl | contradiction)) ls (lv_sub hl [1, 2, 0] rfl)
                          · refine lv_aload_n hx hb dX6_hourOnce_152 rfl (lv_at hl 0 rfl) ?_
                            refine r_get S hh hz hin 12 (by decide) rfl rfl (by decide +kernel) dX6_hourOnce_153 ?_
                            refine lv_iload_n hx hb dX6_hourOnce_156 rfl (lv_at hl 2 rfl) ?_
                            refine r_ald (k := 12) (i := i) S hh hz (by decide) rfl h6 dX6_hourOnce_157 ?_
                            refine lv_if_eq (tgt := 174) hx hb dX6_hourOnce_158 (by decide) (fun c158 => ?_) (fun c158 => ?_)
                            · refine lv_aload_n hx hb dX6_hourOnce_174 rfl (lv_at hl 0 rfl) ?_
                              refine lv_iload_n hx hb dX6_hourOnce_175 rfl (lv_at hl 2 rfl) ?_
                              refine k_callV0 (As := [.int (nI i)]) (c_leave hz hwi h6) S hh (cwV 1 hts gX6_hourOnce_X6_leave rfl rfl rfl (by decide +kernel) ⟨(Nat.le_of_ble_eq_true rfl), (Nat.le_of_ble_eq_true rfl)⟩) hz.1.1 hz.1.2 (q := (RX6, TX6, 22)) rfl rfl rfl hl.1 rfl (Nat.le_of_ble_eq_true rfl) dX6_hourOnce_176 ⟨(Nat.le_of_ble_eq_true rfl), (Nat.le_of_ble_eq_true rfl)⟩ (fun v L1 f1 H locs hp hh => ?_)
                              obtain ⟨rfl, hL1, hz1⟩ := hp
                              subst hL1
                              have hz := hz.trans hz1
                              obtain ⟨x179, e179⟩ : ∃ y : Int32, y = x1 + 1 := ⟨_, rfl⟩
                              refine lv_iinc (v := x179) (lv' := [(1, .int x179), (0, .ref xm), (2, .int (nI i))]) hx hb dX6_hourOnce_179 hl (k := 1) rfl (by rw [e179]; rfl) (by decide) rfl (fun ls hl => ?_)
                              obtain ⟨x182, e182⟩ : ∃ y : Int32, y = (nI i) + 1 := ⟨_, rfl⟩
                              refine lv_iinc (v := x182) (lv' := [(2, .int x182), (1, .int x179), (0, .ref xm)]) hx hb dX6_hourOnce_182 hl (k := 2) rfl (by rw [e182]; rfl) (by decide) rfl (fun ls hl => ?_)
                              refine lv_goto (tgt := 134) hx hb dX6_hourOnce_185 (by decide) ?_
                              obtain rfl : x182 = nI (i + 1) := by rw [e182]; exact nI_1 i
                              exact ih (i + 1) x179 (by omega) (by omega) (by rw [e179, goneLoop, goneStep]; first | (rw [ex1]; (repeat' split); all_goals first | rfl | contradiction) | ((repeat' split); all_goals first | rfl | contradiction)) _ _ _ hh (hz.cast (by rw [goneLoop, goneStep]; (repeat' split); all_goals first | rfl | contradiction)) ls (lv_sub hl [2, 1, 0] rfl)
                            · refine lv_aload_n hx hb dX6_hourOnce_161 rfl (lv_at hl 0 rfl) ?_
                              refine r_get S hh hz hin 13 (by decide) rfl rfl (by decide +kernel) dX6_hourOnce_162 ?_
                              refine lv_iload_n hx hb dX6_hourOnce_165 rfl (lv_at hl 2 rfl) ?_
                              refine r_ald (k := 13) (i := i) S hh hz (by decide) rfl h6 dX6_hourOnce_166 ?_
                              refine lv_aload_n hx hb dX6_hourOnce_167 rfl (lv_at hl 0 rfl) ?_
                              refine r_get S hh hz hin 19 (by decide) rfl rfl (by decide +kernel) dX6_hourOnce_168 ?_
                              refine lv_icmp_ne (tgt := 182) hx hb dX6_hourOnce_171 (by decide) (fun c171 => ?_) (fun c171 => ?_)
                              · obtain ⟨x182, e182⟩ : ∃ y : Int32, y = (nI i) + 1 := ⟨_, rfl⟩
                                refine lv_iinc (v := x182) (lv' := [(2, .int x182), (0, .ref xm), (1, .int x1)]) hx hb dX6_hourOnce_182 hl (k := 2) rfl (by rw [e182]; rfl) (by decide) rfl (fun ls hl => ?_)
                                refine lv_goto (tgt := 134) hx hb dX6_hourOnce_185 (by decide) ?_
                                obtain rfl : x182 = nI (i + 1) := by rw [e182]; exact nI_1 i
                                exact ih (i + 1) x1 (by omega) (by omega) (by rw [goneLoop, goneStep]; first | (rw [ex1]; (repeat' split); all_goals first | rfl | contradiction) | ((repeat' split); all_goals first | rfl | contradiction)) _ _ _ hh (hz.cast (by rw [goneLoop, goneStep]; (repeat' split); all_goals first | rfl | contradiction)) ls (lv_sub hl [1, 2, 0] rfl)
                              · refine lv_aload_n hx hb dX6_hourOnce_174 rfl (lv_at hl 0 rfl) ?_
                                refine lv_iload_n hx hb dX6_hourOnce_175 rfl (lv_at hl 2 rfl) ?_
                                refine k_callV0 (As := [.int (nI i)]) (c_leave hz hwi h6) S hh (cwV 1 hts gX6_hourOnce_X6_leave rfl rfl rfl (by decide +kernel) ⟨(Nat.le_of_ble_eq_true rfl), (Nat.le_of_ble_eq_true rfl)⟩) hz.1.1 hz.1.2 (q := (RX6, TX6, 22)) rfl rfl rfl hl.1 rfl (Nat.le_of_ble_eq_true rfl) dX6_hourOnce_176 ⟨(Nat.le_of_ble_eq_true rfl), (Nat.le_of_ble_eq_true rfl)⟩ (fun v L1 f1 H locs hp hh => ?_)
                                obtain ⟨rfl, hL1, hz1⟩ := hp
                                subst hL1
                                have hz := hz.trans hz1
                                obtain ⟨x179, e179⟩ : ∃ y : Int32, y = x1 + 1 := ⟨_, rfl⟩
                                refine lv_iinc (v := x179) (lv' := [(1, .int x179), (0, .ref xm), (2, .int (nI i))]) hx hb dX6_hourOnce_179 hl (k := 1) rfl (by rw [e179]; rfl) (by decide) rfl (fun ls hl => ?_)
                                obtain ⟨x182, e182⟩ : ∃ y : Int32, y = (nI i) + 1 := ⟨_, rfl⟩
                                refine lv_iinc (v := x182) (lv' := [(2, .int x182), (1, .int x179), (0, .ref xm)]) hx hb dX6_hourOnce_182 hl (k := 2) rfl (by rw [e182]; rfl) (by decide) rfl (fun ls hl => ?_)
                                refine lv_goto (tgt := 134) hx hb dX6_hourOnce_185 (by decide) ?_
                                obtain rfl : x182 = nI (i + 1) := by rw [e182]; exact nI_1 i
                                exact ih (i + 1) x179 (by omega) (by omega) (by rw [e179, goneLoop, goneStep]; first | (rw [ex1]; (repeat' split); all_goals first | rfl | contradiction) | ((repeat' split); all_goals first | rfl | contradiction)) _ _ _ hh (hz.cast (by rw [goneLoop, goneStep]; (repeat' split); all_goals first | rfl | contradiction)) ls (lv_sub hl [2, 1, 0] rfl)
                    exact loop4 (ns + 1) 0 0 (Nat.zero_le _) (by omega) rfl _ _ _ hh (hz.cast (by rw [hie]; rfl)) ls (lv_sub hl [2, 1, 0] rfl)
                  · have hlt : i < nl := by
                      rcases Nat.lt_or_ge i nl with q | q
                      · exact q
                      · exact absurd (by rw [show workLoop (buoyLoop (restLoop M ng) ns ns) i 16 0 = nI nl from hwi.1.2.1]; exact nI_le q (by omega)) c96
                    have h6 : i < 6 := by omega
                    refine lv_aload_n hx hb dX6_hourOnce_99 rfl (lv_at hl 0 rfl) ?_
                    refine r_get S hh hz hin 6 (by decide) rfl rfl (by decide +kernel) dX6_hourOnce_100 ?_
                    refine lv_iload_n hx hb dX6_hourOnce_103 rfl (lv_at hl 1 rfl) ?_
                    refine r_ald (k := 6) (i := i) S hh hz (by decide) rfl h6 dX6_hourOnce_104 ?_
                    refine lv_iconst (v := (-1)) hx hb dX6_hourOnce_105 (by decide) ?_
                    refine lv_icmp_eq (tgt := 114) hx hb dX6_hourOnce_106 (by decide) (fun c106 => ?_) (fun c106 => ?_)
                    · obtain ⟨x114, e114⟩ : ∃ y : Int32, y = (nI i) + 1 := ⟨_, rfl⟩
                      refine lv_iinc (v := x114) (lv' := [(1, .int x114), (0, .ref xm)]) hx hb dX6_hourOnce_114 hl (k := 1) rfl (by rw [e114]; rfl) (by decide) rfl (fun ls hl => ?_)
                      refine lv_goto (tgt := 91) hx hb dX6_hourOnce_117 (by decide) ?_
                      obtain rfl : x114 = nI (i + 1) := by rw [e114]; exact nI_1 i
                      exact ih (i + 1) (by omega) (by omega) _ _ _ hh (hz.cast (by rw [workLoop]; (repeat' split); all_goals first | rfl | contradiction)) ls (lv_sub hl [1, 0] rfl)
                    · have hlw := hwi.lw hlt c106
                      refine lv_aload_n hx hb dX6_hourOnce_109 rfl (lv_at hl 0 rfl) ?_
                      refine lv_iload_n hx hb dX6_hourOnce_110 rfl (lv_at hl 1 rfl) ?_
                      refine k_callV0 (As := [.int (nI i)]) (c_work hz h6 hlw) S hh (cwV 1 hts gX6_hourOnce_X6_work rfl rfl rfl (by decide +kernel) ⟨(Nat.le_of_ble_eq_true rfl), (Nat.le_of_ble_eq_true rfl)⟩) hz.1.1 hz.1.2 (q := (RX6, TX6, 22)) rfl rfl rfl hl.1 rfl (Nat.le_of_ble_eq_true rfl) dX6_hourOnce_111 ⟨(Nat.le_of_ble_eq_true rfl), (Nat.le_of_ble_eq_true rfl)⟩ (fun v L1 f1 H locs hp hh => ?_)
                      obtain ⟨rfl, hL1, hz1⟩ := hp
                      subst hL1
                      have hz := hz.trans hz1
                      obtain ⟨x114, e114⟩ : ∃ y : Int32, y = (nI i) + 1 := ⟨_, rfl⟩
                      refine lv_iinc (v := x114) (lv' := [(1, .int x114), (0, .ref xm)]) hx hb dX6_hourOnce_114 hl (k := 1) rfl (by rw [e114]; rfl) (by decide) rfl (fun ls hl => ?_)
                      refine lv_goto (tgt := 91) hx hb dX6_hourOnce_117 (by decide) ?_
                      obtain rfl : x114 = nI (i + 1) := by rw [e114]; exact nI_1 i
                      exact ih (i + 1) (by omega) (by omega) _ _ _ hh (hz.cast (by rw [workLoop]; (repeat' split); all_goals first | rfl | contradiction)) ls (lv_sub hl [1, 0] rfl)
              exact loop3 (nl + 1) 0 (Nat.zero_le _) (by omega) _ _ _ hh (hz.cast (by rw [hie]; rfl)) ls (lv_sub hl [1, 0] rfl)
            · have hlt : i < ns := by
                rcases Nat.lt_or_ge i ns with q | q
                · exact q
                · exact absurd (by rw [show buoyLoop (restLoop M ng) ns i 18 0 = nI ns from hwi.1.2.2.2]; exact nI_le q (by omega)) c46
              have h6 : i < 600 := by omega
              refine lv_aload_n hx hb dX6_hourOnce_49 rfl (lv_at hl 0 rfl) ?_
              refine r_get S hh hz hin 14 (by decide) rfl rfl (by decide +kernel) dX6_hourOnce_50 ?_
              refine lv_iload_n hx hb dX6_hourOnce_53 rfl (lv_at hl 1 rfl) ?_
              refine lv_aload_n hx hb dX6_hourOnce_54 rfl (lv_at hl 0 rfl) ?_
              refine r_get S hh hz hin 14 (by decide) rfl rfl (by decide +kernel) dX6_hourOnce_55 ?_
              refine lv_iload_n hx hb dX6_hourOnce_58 rfl (lv_at hl 1 rfl) ?_
              refine r_ald (k := 14) (i := i) S hh hz (by decide) rfl h6 dX6_hourOnce_59 ?_
              refine lv_if_ne (tgt := 76) hx hb dX6_hourOnce_60 (by decide) (fun c60 => ?_) (fun c60 => ?_)
              · refine lv_aload_n hx hb dX6_hourOnce_76 rfl (lv_at hl 0 rfl) ?_
                refine r_get S hh hz hin 14 (by decide) rfl rfl (by decide +kernel) dX6_hourOnce_77 ?_
                refine lv_iload_n hx hb dX6_hourOnce_80 rfl (lv_at hl 1 rfl) ?_
                refine r_ald (k := 14) (i := i) S hh hz (by decide) rfl h6 dX6_hourOnce_81 ?_
                refine r_ast (k := 14) (i := i) S hh hz (by decide) rfl h6 dX6_hourOnce_82 (fun f9 H locs hh hz => ?_)
                obtain ⟨x83, e83⟩ : ∃ y : Int32, y = (nI i) + 1 := ⟨_, rfl⟩
                refine lv_iinc (v := x83) (lv' := [(1, .int x83), (0, .ref xm)]) hx hb dX6_hourOnce_83 hl (k := 1) rfl (by rw [e83]; rfl) (by decide) rfl (fun ls hl => ?_)
                refine lv_goto (tgt := 41) hx hb dX6_hourOnce_86 (by decide) ?_
                obtain rfl : x83 = nI (i + 1) := by rw [e83]; exact nI_1 i
                exact ih (i + 1) (by omega) (by omega) _ _ _ hh (hz.cast (by rw [buoyLoop, buoyStep]; (repeat' split); all_goals first | rfl | contradiction)) ls (lv_sub hl [1, 0] rfl)
              · refine lv_aload_n hx hb dX6_hourOnce_63 rfl (lv_at hl 0 rfl) ?_
                refine lv_iconst (v := 1) hx hb dX6_hourOnce_64 (by decide) ?_
                refine k_callV0 (As := [.int 1]) (c_many hz (how := 1) hwi.1.2.2.2 b18) S hh (cwV 1 hts gX6_hourOnce_X6_many rfl rfl rfl (by decide +kernel) ⟨(Nat.le_of_ble_eq_true rfl), (Nat.le_of_ble_eq_true rfl)⟩) hz.1.1 hz.1.2 (q := (RX6, TX6, 22)) rfl rfl rfl hl.1 rfl (Nat.le_of_ble_eq_true rfl) dX6_hourOnce_65 ⟨(Nat.le_of_ble_eq_true rfl), (Nat.le_of_ble_eq_true rfl)⟩ (fun v L1 f1 H locs hp hh => ?_)
                obtain ⟨rfl, hL1, hf1⟩ := hp
                subst hL1; subst hf1
                refine lv_iconst (v := 2) hx hb dX6_hourOnce_68 (by decide) ?_
                refine lv_icmp_ge (tgt := 76) hx hb dX6_hourOnce_69 (by decide) (fun c69 => ?_) (fun c69 => ?_)
                · refine lv_aload_n hx hb dX6_hourOnce_76 rfl (lv_at hl 0 rfl) ?_
                  refine r_get S hh hz hin 14 (by decide) rfl rfl (by decide +kernel) dX6_hourOnce_77 ?_
                  refine lv_iload_n hx hb dX6_hourOnce_80 rfl (lv_at hl 1 rfl) ?_
                  refine r_ald (k := 14) (i := i) S hh hz (by decide) rfl h6 dX6_hourOnce_81 ?_
                  refine r_ast (k := 14) (i := i) S hh hz (by decide) rfl h6 dX6_hourOnce_82 (fun f9 H locs hh hz => ?_)
                  obtain ⟨x83, e83⟩ : ∃ y : Int32, y = (nI i) + 1 := ⟨_, rfl⟩
                  refine lv_iinc (v := x83) (lv' := [(1, .int x83), (0, .ref xm)]) hx hb dX6_hourOnce_83 hl (k := 1) rfl (by rw [e83]; rfl) (by decide) rfl (fun ls hl => ?_)
                  refine lv_goto (tgt := 41) hx hb dX6_hourOnce_86 (by decide) ?_
                  obtain rfl : x83 = nI (i + 1) := by rw [e83]; exact nI_1 i
                  exact ih (i + 1) (by omega) (by omega) _ _ _ hh (hz.cast (by rw [buoyLoop, buoyStep]; (repeat' split); all_goals first | rfl | contradiction)) ls (lv_sub hl [1, 0] rfl)
                · refine lv_iconst (v := 1) hx hb dX6_hourOnce_72 (by decide) ?_
                  refine lv_goto (tgt := 82) hx hb dX6_hourOnce_73 (by decide) ?_
                  refine r_ast (k := 14) (i := i) S hh hz (by decide) rfl h6 dX6_hourOnce_82 (fun f9 H locs hh hz => ?_)
                  obtain ⟨x83, e83⟩ : ∃ y : Int32, y = (nI i) + 1 := ⟨_, rfl⟩
                  refine lv_iinc (v := x83) (lv' := [(1, .int x83), (0, .ref xm)]) hx hb dX6_hourOnce_83 hl (k := 1) rfl (by rw [e83]; rfl) (by decide) rfl (fun ls hl => ?_)
                  refine lv_goto (tgt := 41) hx hb dX6_hourOnce_86 (by decide) ?_
                  obtain rfl : x83 = nI (i + 1) := by rw [e83]; exact nI_1 i
                  exact ih (i + 1) (by omega) (by omega) _ _ _ hh (hz.cast (by rw [buoyLoop, buoyStep]; (repeat' split); all_goals first | rfl | contradiction)) ls (lv_sub hl [1, 0] rfl)
        exact loop2 (ns + 1) 0 (Nat.zero_le _) (by omega) _ _ _ hh (hz.cast (by rw [hie]; rfl)) ls (lv_sub hl [1, 0] rfl)
      · have hlt : i < ng := by
          rcases Nat.lt_or_ge i ng with q | q
          · exact q
          · exact absurd (by rw [show restLoop M i 17 0 = nI ng from hwi.1.2.2.1]; exact nI_le q (by omega)) c7
        have h6 : i < 6 := by omega
        refine lv_aload_n hx hb dX6_hourOnce_10 rfl (lv_at hl 0 rfl) ?_
        refine r_get S hh hz hin 11 (by decide) rfl rfl (by decide +kernel) dX6_hourOnce_11 ?_
        refine lv_iload_n hx hb dX6_hourOnce_14 rfl (lv_at hl 1 rfl) ?_
        refine lv_dup2_11 hx hb dX6_hourOnce_15 rfl rfl ?_
        refine r_ald (k := 11) (i := i) S hh hz (by decide) rfl h6 dX6_hourOnce_16 ?_
        refine lv_aload_n hx hb dX6_hourOnce_17 rfl (lv_at hl 0 rfl) ?_
        refine r_get S hh hz hin 11 (by decide) rfl rfl (by decide +kernel) dX6_hourOnce_18 ?_
        refine lv_iload_n hx hb dX6_hourOnce_21 rfl (lv_at hl 1 rfl) ?_
        refine r_ald (k := 11) (i := i) S hh hz (by decide) rfl h6 dX6_hourOnce_22 ?_
        refine lv_if_le (tgt := 30) hx hb dX6_hourOnce_23 (by decide) (fun c23 => ?_) (fun c23 => ?_)
        · refine lv_iconst (v := 0) hx hb dX6_hourOnce_30 (by decide) ?_
          refine lv_isub hx hb dX6_hourOnce_31 ?_
          refine r_ast (k := 11) (i := i) S hh hz (by decide) rfl h6 dX6_hourOnce_32 (fun f9 H locs hh hz => ?_)
          obtain ⟨x33, e33⟩ : ∃ y : Int32, y = (nI i) + 1 := ⟨_, rfl⟩
          refine lv_iinc (v := x33) (lv' := [(1, .int x33), (0, .ref xm)]) hx hb dX6_hourOnce_33 hl (k := 1) rfl (by rw [e33]; rfl) (by decide) rfl (fun ls hl => ?_)
          refine lv_goto (tgt := 2) hx hb dX6_hourOnce_36 (by decide) ?_
          obtain rfl : x33 = nI (i + 1) := by rw [e33]; exact nI_1 i
          exact ih (i + 1) (by omega) (by omega) _ _ _ hh (hz.cast (by rw [restLoop]; (repeat' split); all_goals first | rfl | contradiction)) ls (lv_sub hl [1, 0] rfl)
        · refine lv_iconst (v := 1) hx hb dX6_hourOnce_26 (by decide) ?_
          refine lv_goto (tgt := 31) hx hb dX6_hourOnce_27 (by decide) ?_
          refine lv_isub hx hb dX6_hourOnce_31 ?_
          refine r_ast (k := 11) (i := i) S hh hz (by decide) rfl h6 dX6_hourOnce_32 (fun f9 H locs hh hz => ?_)
          obtain ⟨x33, e33⟩ : ∃ y : Int32, y = (nI i) + 1 := ⟨_, rfl⟩
          refine lv_iinc (v := x33) (lv' := [(1, .int x33), (0, .ref xm)]) hx hb dX6_hourOnce_33 hl (k := 1) rfl (by rw [e33]; rfl) (by decide) rfl (fun ls hl => ?_)
          refine lv_goto (tgt := 2) hx hb dX6_hourOnce_36 (by decide) ?_
          obtain rfl : x33 = nI (i + 1) := by rw [e33]; exact nI_1 i
          exact ih (i + 1) (by omega) (by omega) _ _ _ hh (hz.cast (by rw [restLoop]; (repeat' split); all_goals first | rfl | contradiction)) ls (lv_sub hl [1, 0] rfl)
  exact loop (ng + 1) 0 (Nat.zero_le _) (by omega) _ _ _ hh (hz) ls (lv_sub hl [1, 0] rfl)

set_option maxRecDepth 100000 in
set_option maxHeartbeats 4000000 in
theorem c_hours {l : Launch} {κ : Kx} {xm : Nat} {b : Nat → Nat} {M : MS} {L : List Nat} {f0 f : Nat → va_E} (hz : ZR κ xm b M L f0 f) {nh nl ng ns : Nat} (hw : wfM M nh nl ng ns) {x : Int32} : PM l κ yX6_hours wsX6_hours ({ frames := 5, cells := 0, slots := 0, locals := 111 } : Room) [.ref xm, .int x] L f (fun v L1 f1 => v = some (.int (hoursF M nl ng ns x).2) ∧ L = L1 ∧ ZR κ xm b (hoursF M nl ng ns x).1 L f f1) noX 0 0 := by
  refine PM.mk (cc := cX6_hours) (maxL := 4) (ret := (some .int)) (by decide) rfl (Nat.le_of_ble_eq_true rfl) ?_
  intro p e s m args below meth c ls hx hb hml hr hlk hnm hown hts ht hh hl
  have hl : lv_has ls 4 [(0, .ref xm), (1, .int x)] := hl
  have S : CallFix p m c cX6_hours 4 s args wsX6_hours RX6 := ⟨hx, hb, hml, hown, hts⟩
  have hin : ∀ w ∈ wsX60, w ∈ wsX6_hours := by decide +kernel
  have hz := hz.self
  obtain ⟨b15, b16, b17, b18⟩ := id hw.2.1
  refine lv_aload_n hx hb dX6_hours_0 rfl (lv_at hl 0 rfl) ?_
  refine lv_iload_n hx hb dX6_hours_1 rfl (lv_at hl 1 rfl) ?_
  refine lv_iconst (v := 1) hx hb dX6_hours_2 (by decide) ?_
  refine lv_icmp_lt (tgt := 13) hx hb dX6_hours_3 (by decide) (fun c3 => ?_) (fun c3 => ?_)
  · refine lv_iconst (v := 1) hx hb dX6_hours_13 (by decide) ?_
    refine lv_goto (tgt := 18) hx hb dX6_hours_14 (by decide) ?_
    refine r_put S hh hz hin 21 (by decide) rfl rfl rfl (by decide +kernel) dX6_hours_18 (fun f9 H locs hh hz => ?_)
    refine lv_iconst (v := 0) hx hb dX6_hours_21 (by decide) ?_
    refine lv_istore_n (lv' := [(2, .int 0), (0, .ref xm), (1, .int x)]) hx hb dX6_hours_22 rfl hl (by decide) rfl (fun ls hl => ?_)
    refine lv_iconst (v := 0) hx hb dX6_hours_23 (by decide) ?_
    refine lv_istore_n (lv' := [(3, .int 0), (2, .int 0), (0, .ref xm), (1, .int x)]) hx hb dX6_hours_24 rfl hl (by decide) rfl (fun ls hl => ?_)
    refine lv_iload_n hx hb dX6_hours_25 rfl (lv_at hl 0 rfl) ?_
    refine lv_iload_n hx hb dX6_hours_26 rfl (lv_at hl 3 rfl) ?_
    refine lv_icmp_ge (tgt := 50) hx hb dX6_hours_27 (by decide) (fun c27 => ?_) (fun c27 => ?_)
    · have d27 : x ≤ 0 := c27
      refine lv_iload_n hx hb dX6_hours_50 rfl (lv_at hl 1 rfl) ?_
      exact k_iret hx hb hr hlk hh dX6_hours_51 (Nat.le_of_ble_eq_true rfl) (Nat.le_of_ble_eq_true rfl) (by
  have hT : hoursT x = 1 := by (unfold hoursT; (repeat' split); all_goals first | rfl | contradiction)
  exact ⟨congrArg (fun r => some (Value.int r)) (by rw [hoursF, if_neg (by rw [hT]; decide)]), rfl, hz.cast (by rw [hoursF, if_neg (by rw [hT]; decide)])⟩)
    · have d27 : ¬ x ≤ 0 := c27
      refine lv_aload_n hx hb dX6_hours_30 rfl (lv_at hl 2 rfl) ?_
      refine r_get S hh hz hin 21 (by decide) rfl rfl (by decide +kernel) dX6_hours_31 ?_
      refine lv_if_ne (tgt := 50) hx hb dX6_hours_34 (by decide) (fun _ => ?_) (fun c => absurd (show (1 : Int32) = (0 : Int32) from c) (by decide))
      refine lv_iload_n hx hb dX6_hours_50 rfl (lv_at hl 1 rfl) ?_
      exact k_iret hx hb hr hlk hh dX6_hours_51 (Nat.le_of_ble_eq_true rfl) (Nat.le_of_ble_eq_true rfl) (by
  have hT : hoursT x = 1 := by (unfold hoursT; (repeat' split); all_goals first | rfl | contradiction)
  exact ⟨congrArg (fun r => some (Value.int r)) (by rw [hoursF, if_neg (by rw [hT]; decide)]), rfl, hz.cast (by rw [hoursF, if_neg (by rw [hT]; decide)])⟩)
  · refine lv_iload_n hx hb dX6_hours_6 rfl (lv_at hl 1 rfl) ?_
    refine lv_sipush (v := 500) hx hb dX6_hours_7 (by decide) ?_
    refine lv_icmp_le (tgt := 17) hx hb dX6_hours_10 (by decide) (fun c10 => ?_) (fun c10 => ?_)
    · have hT : hoursT x = 0 := by (unfold hoursT; (repeat' split); all_goals first | rfl | contradiction)
      obtain ⟨k, hk, hxk⟩ := nI_of2 (M := 500) (n := 500) rfl (fun q => c3 (by rw [Int32.lt_iff_toInt_lt] at q ⊢; have e0 : (0 : Int32).toInt = 0 := rfl; have e1 : (1 : Int32).toInt = 1 := rfl; rw [e0] at q; rw [e1]; omega)) c10
      have ek : nT x = k := by rw [hxk]; exact nI_clamp (by omega)
      have hw2 : wfM (scM M 21 0) nh nl ng ns := hw.keep (Keep.rf.sc (by decide))
      refine lv_iconst (v := 0) hx hb dX6_hours_17 (by decide) ?_
      refine r_put S hh hz hin 21 (by decide) rfl rfl rfl (by decide +kernel) dX6_hours_18 (fun f9 H locs hh hz => ?_)
      refine lv_iconst (v := 0) hx hb dX6_hours_21 (by decide) ?_
      refine lv_istore_n (lv' := [(2, .int 0), (0, .ref xm), (1, .int x)]) hx hb dX6_hours_22 rfl hl (by decide) rfl (fun ls hl => ?_)
      refine lv_iconst (v := 0) hx hb dX6_hours_23 (by decide) ?_
      refine lv_istore_n (lv' := [(3, .int 0), (2, .int 0), (0, .ref xm), (1, .int x)]) hx hb dX6_hours_24 rfl hl (by decide) rfl (fun ls hl => ?_)
      have loop : ∀ (n i : Nat) (x2 : Int32), i ≤ k → k + 1 ≤ i + n → x2 = (hoursLoop (scM M 21 0) nl ng ns i).2 → ∀ (f9 : Nat → va_E) (H : Heap) (locs : List Loc), HH κ L f9 s H locs → ZR κ xm b (hoursLoop (scM M 21 0) nl ng ns i).1 L f f9 → ∀ ls : Array Slot, lv_has ls 4 [(0, .ref xm), (1, .int x), (2, .int x2), (3, .int (nI i))] → W p l e ({ frames := 5, cells := 0, slots := 0, locals := 111 } : Room) s m args below meth c H locs 0 0 (vx_MQ below (PQ κ (fun v L1 f1 => v = some (.int (hoursF M nl ng ns x).2) ∧ L = L1 ∧ ZR κ xm b (hoursF M nl ng ns x).1 L f f1)) (PX κ L f noX) args s 0 0 (kA κ)) (F0 m 25 ls []) := by
        intro n
        induction n with
        | zero =>
          intro i x2 h1 h2
          exact absurd h2 (by omega)
        | succ n ih =>
          intro i x2 hi hin3 ex2 f9 H locs hh hz ls hl
          have hwi := hw2.keep (hours_keep Keep.rf nl ng ns i)
          refine lv_iload_n hx hb dX6_hours_25 rfl (lv_at hl 3 rfl) ?_
          refine lv_iload_n hx hb dX6_hours_26 rfl (lv_at hl 1 rfl) ?_
          refine lv_icmp_ge (tgt := 50) hx hb dX6_hours_27 (by decide) (fun c27 => ?_) (fun c27 => ?_)
          · have c27b : nI k ≤ nI i := hxk ▸ c27
            have hie : i = k := by
              rcases Nat.lt_or_ge i k with q | q
              · exact absurd c27b (nI_ge q (by omega))
              · omega
            refine lv_iload_n hx hb dX6_hours_50 rfl (lv_at hl 2 rfl) ?_
            exact k_iret hx hb hr hlk hh dX6_hours_51 (Nat.le_of_ble_eq_true rfl) (Nat.le_of_ble_eq_true rfl) ⟨congrArg (fun r => some (Value.int r)) (by rw [hoursF, if_pos hT, ek, ex2, hie]), rfl, hz.cast (by rw [hoursF, if_pos hT, ek, hie])⟩
          · have c27b : ¬ nI k ≤ nI i := hxk ▸ c27
            have hlt : i < k := by
              rcases Nat.lt_or_ge i k with q | q
              · exact q
              · exact absurd (nI_le q (by omega)) c27b
            refine lv_aload_n hx hb dX6_hours_30 rfl (lv_at hl 0 rfl) ?_
            refine r_get S hh hz hin 21 (by decide) rfl rfl (by decide +kernel) dX6_hours_31 ?_
            refine lv_if_ne (tgt := 50) hx hb dX6_hours_34 (by decide) (fun c34 => ?_) (fun c34 => ?_)
            · exact absurd (show (hoursLoop (scM M 21 0) nl ng ns i).1 21 0 = 0 from hours21 M nl ng ns i) c34
            · refine lv_iload_n hx hb dX6_hours_37 rfl (lv_at hl 2 rfl) ?_
              refine lv_aload_n hx hb dX6_hours_38 rfl (lv_at hl 0 rfl) ?_
              refine k_callV0 (As := []) (c_hourOnce hz hwi) S hh (cwV 0 hts gX6_hours_X6_hourOnce rfl rfl rfl (by decide +kernel) ⟨(Nat.le_of_ble_eq_true rfl), (Nat.le_of_ble_eq_true rfl)⟩) hz.1.1 hz.1.2 (q := (RX6, TX6, 22)) rfl rfl rfl hl.1 rfl (Nat.le_of_ble_eq_true rfl) dX6_hours_39 ⟨(Nat.le_of_ble_eq_true rfl), (Nat.le_of_ble_eq_true rfl)⟩ (fun v L1 f1 H locs hp hh => ?_)
              obtain ⟨rfl, hL1, hz1⟩ := hp
              subst hL1
              have hz := hz.trans hz1
              refine lv_iadd hx hb dX6_hours_42 ?_
              refine lv_topi (fun x43 e43 => ?_)
              refine lv_istore_n (lv' := [(2, .int x43), (0, .ref xm), (1, .int x), (3, .int (nI i))]) hx hb dX6_hours_43 rfl hl (by decide) rfl (fun ls hl => ?_)
              obtain ⟨x44, e44⟩ : ∃ y : Int32, y = (nI i) + 1 := ⟨_, rfl⟩
              refine lv_iinc (v := x44) (lv' := [(3, .int x44), (2, .int x43), (0, .ref xm), (1, .int x)]) hx hb dX6_hours_44 hl (k := 3) rfl (by rw [e44]; rfl) (by decide) rfl (fun ls hl => ?_)
              refine lv_goto (tgt := 25) hx hb dX6_hours_47 (by decide) ?_
              obtain rfl : x44 = nI (i + 1) := by rw [e44]; exact nI_1 i
              exact ih (i + 1) x43 (by omega) (by omega) (by rw [e43, ex2, hoursLoop]) _ _ _ hh (hz.cast (by rw [hoursLoop])) ls (lv_sub hl [2, 3, 1, 0] rfl)
      exact loop (k + 1) 0 0 (Nat.zero_le _) (by omega) rfl _ _ _ hh hz ls (lv_sub hl [2, 3, 1, 0] rfl)
    · refine lv_iconst (v := 1) hx hb dX6_hours_13 (by decide) ?_
      refine lv_goto (tgt := 18) hx hb dX6_hours_14 (by decide) ?_
      refine r_put S hh hz hin 21 (by decide) rfl rfl rfl (by decide +kernel) dX6_hours_18 (fun f9 H locs hh hz => ?_)
      refine lv_iconst (v := 0) hx hb dX6_hours_21 (by decide) ?_
      refine lv_istore_n (lv' := [(2, .int 0), (0, .ref xm), (1, .int x)]) hx hb dX6_hours_22 rfl hl (by decide) rfl (fun ls hl => ?_)
      refine lv_iconst (v := 0) hx hb dX6_hours_23 (by decide) ?_
      refine lv_istore_n (lv' := [(3, .int 0), (2, .int 0), (0, .ref xm), (1, .int x)]) hx hb dX6_hours_24 rfl hl (by decide) rfl (fun ls hl => ?_)
      refine lv_iload_n hx hb dX6_hours_25 rfl (lv_at hl 0 rfl) ?_
      refine lv_iload_n hx hb dX6_hours_26 rfl (lv_at hl 3 rfl) ?_
      refine lv_icmp_ge (tgt := 50) hx hb dX6_hours_27 (by decide) (fun c27 => ?_) (fun c27 => ?_)
      · have d27 : x ≤ 0 := c27
        refine lv_iload_n hx hb dX6_hours_50 rfl (lv_at hl 1 rfl) ?_
        exact k_iret hx hb hr hlk hh dX6_hours_51 (Nat.le_of_ble_eq_true rfl) (Nat.le_of_ble_eq_true rfl) (by
  have hT : hoursT x = 1 := by (unfold hoursT; (repeat' split); all_goals first | rfl | contradiction)
  exact ⟨congrArg (fun r => some (Value.int r)) (by rw [hoursF, if_neg (by rw [hT]; decide)]), rfl, hz.cast (by rw [hoursF, if_neg (by rw [hT]; decide)])⟩)
      · have d27 : ¬ x ≤ 0 := c27
        refine lv_aload_n hx hb dX6_hours_30 rfl (lv_at hl 2 rfl) ?_
        refine r_get S hh hz hin 21 (by decide) rfl rfl (by decide +kernel) dX6_hours_31 ?_
        refine lv_if_ne (tgt := 50) hx hb dX6_hours_34 (by decide) (fun _ => ?_) (fun c => absurd (show (1 : Int32) = (0 : Int32) from c) (by decide))
        refine lv_iload_n hx hb dX6_hours_50 rfl (lv_at hl 1 rfl) ?_
        exact k_iret hx hb hr hlk hh dX6_hours_51 (Nat.le_of_ble_eq_true rfl) (Nat.le_of_ble_eq_true rfl) (by
  have hT : hoursT x = 1 := by (unfold hoursT; (repeat' split); all_goals first | rfl | contradiction)
  exact ⟨congrArg (fun r => some (Value.int r)) (by rw [hoursF, if_neg (by rw [hT]; decide)]), rfl, hz.cast (by rw [hoursF, if_neg (by rw [hT]; decide)])⟩)
end
section
/-! the reference's constructor: fifteen rows, one behind another -/
def pF (b : Nat → Nat) (k : Nat) : List Value := [(if 0 < k then .ref (b 0) else .null), (if 1 < k then .ref (b 1) else .null), (if 2 < k then .ref (b 2) else .null), (if 3 < k then .ref (b 3) else .null), (if 4 < k then .ref (b 4) else .null), (if 5 < k then .ref (b 5) else .null), (if 6 < k then .ref (b 6) else .null), (if 7 < k then .ref (b 7) else .null), (if 8 < k then .ref (b 8) else .null), (if 9 < k then .ref (b 9) else .null), (if 10 < k then .ref (b 10) else .null), (if 11 < k then .ref (b 11) else .null), (if 12 < k then .ref (b 12) else .null), (if 13 < k then .ref (b 13) else .null), (if 14 < k then .ref (b 14) else .null), .int 0, .int 0, .int 0, .int 0, .int 0, .int 0, .int 0]
def PI (κ : Kx) (xm k : Nat) (b : Nat → Nat) (L : List Nat) (f : Nat → va_E) (L0 : List Nat) (f0 : Nat → va_E) : Prop :=
  (xm ∈ L ∧ f xm = .inr (7, pF b k)) ∧ (∀ j, j < k → b j ∈ L ∧ f (b j) = .inl (kI κ, lenM j, .inl (fun _ => 0))) ∧ (∀ i j, i < k → j < k → b i = b j → i = j) ∧ (∀ q, q ∈ L0 → q ∈ L) ∧ ∀ q, q ∈ L0 → q ≠ xm → f q = f0 q
theorem pF_set (b : Nat → Nat) (q : Nat) : ∀ k, k < 15 → (pF b k).set k (.ref q) = pF (va_up b k q) (k + 1) := by
  intro k hk
  have h : k = 0 ∨ k = 1 ∨ k = 2 ∨ k = 3 ∨ k = 4 ∨ k = 5 ∨ k = 6 ∨ k = 7 ∨ k = 8 ∨ k = 9 ∨ k = 10 ∨ k = 11 ∨ k = 12 ∨ k = 13 ∨ k = 14 := by omega
  rcases h with rfl | rfl | rfl | rfl | rfl | rfl | rfl | rfl | rfl | rfl | rfl | rfl | rfl | rfl | rfl <;> simp [pF, va_up]
theorem PI.step {κ : Kx} {xm k : Nat} {b : Nat → Nat} {L L0 : List Nat} {f f0 : Nat → va_E} (h : PI κ xm k b L f L0 f0) (hk : k < 15) {q : Nat} (hq : q ∉ L) :
    PI κ xm (k + 1) (va_up b k q) (L ++ [q]) (va_up (va_up f q (.inl (kI κ, lenM k, .inl (fun _ => 0)))) xm (.inr (7, (pF b k).set k (.ref q)))) L0 f0 := by
  obtain ⟨⟨h1, h2⟩, h3, h4, h5, h6⟩ := h
  have hxq : xm ≠ q := fun e => hq (e ▸ h1)
  refine ⟨⟨List.mem_append_left _ h1, by rw [pF_set b q k hk]; simp [va_up]⟩, fun j hj => ?_, fun i j hi hj e => ?_, fun q9 h9 => List.mem_append_left _ (h5 q9 h9), fun q9 h9 hx => ?_⟩
  · by_cases hjk : j = k
    · subst hjk
      have e1 : va_up b j q j = q := by simp [va_up]
      rw [e1]
      exact ⟨List.mem_append_right _ List.mem_cons_self, by simp [va_up, hxq.symm]⟩
    · have e1 : va_up b k q j = b j := by simp [va_up, hjk]
      obtain ⟨h7, h8⟩ := h3 j (by omega)
      have hbq : b j ≠ q := fun e => hq (e ▸ h7)
      have hbx : b j ≠ xm := fun e => by
        rw [e, h2] at h8
        cases h8
      rw [e1]
      exact ⟨List.mem_append_left _ h7, by simp [va_up, hbx, hbq, h8]⟩
  · have key : ∀ i, i < k → b i ≠ q := fun i hi e => hq (e ▸ (h3 i hi).1)
    by_cases hik : i = k
    · by_cases hjk : j = k
      · omega
      · exact absurd (by simpa [va_up, hik, hjk] using e.symm) (key j (by omega))
    · by_cases hjk : j = k
      · exact absurd (by simpa [va_up, hik, hjk] using e) (key i (by omega))
      · exact h4 i j (by omega) (by omega) (by simpa [va_up, hik, hjk] using e)
  · have h9q : q9 ≠ q := fun e => hq (e ▸ h5 q9 h9)
    have e1 : va_up (va_up f q (.inl (kI κ, lenM k, .inl (fun _ => 0)))) xm (.inr (7, (pF b k).set k (.ref q))) q9 = f q9 := by simp [va_up, hx, h9q]
    rw [e1]
    exact h6 q9 h9 hx
/-- a fresh state of the reference -/
def M00 : MS := fun _ _ => 0
theorem PI.done {κ : Kx} {xm : Nat} {b : Nat → Nat} {L L0 : List Nat} {f f0 : Nat → va_E} (h : PI κ xm 15 b L f L0 f0) : ZR κ xm b M00 L f f :=
  ⟨⟨h.1.1, h.1.2⟩, h.2.1, h.2.2.1, fun _ _ => rfl⟩
section RMK
variable {p : Program} {l : Launch} {e : Env} {R : Room} {s : State} {m : MethodId} {args : Array Value} {below : List Frame} {meth : Method} {c : Code} {H : Heap} {locs : List Loc} {cells slots : Nat} {Q : State → Prop}
variable {κ : Kx} {L L0 : List Nat} {f f0 : Nat → va_E} {cc : ByteArray} {pc nL : Nat} {ls : Array Slot} {rest : List Value} {Ts : List Cond} {xm : Nat} {b : Nat → Nat}
/-- 'new int[n]', put into the field k -/
theorem r_mk (S : CallFix p m c cc nL s args Ts RX6) (hh : HH κ L f s H locs) (k : Nat) (hp : PI κ xm k b L f L0 f0) (hin : ∀ w ∈ wsX60, w ∈ Ts) (hnm : meth.name = "<init>") (hk : k < 15) (harr : Cond.arrayClass .int ∈ Ts) {n : Int32} (hn : n = nI (lenM k)) {index : Nat} (hT : (TX6 k).1 = RX6) (hfin : (TX6 k).2.2.2 = true) (hty : tyX6 k = .array .int) (hlink : Cond.fieldLink RX6 index RX6 (TX6 k).2.1 (TX6 k).2.2.1 ∈ Ts) (hcells : cells + 1 ≤ R.cells) (hslots : slots + lenM k ≤ R.slots) (d1 : decode cc pc = .ok (.newarray .int, 2)) (d2 : decode cc (pc + 2) = .ok (.putfield index, 3))
    (kk : ∀ (q : Nat) (L1 : List Nat) (f1 : Nat → va_E) (H1 : Heap) (locs1 : List Loc), HH κ L1 f1 s H1 locs1 → PI κ xm (k + 1) (va_up b k q) L1 f1 L0 f0 → W p l e R s m args below meth c H1 locs1 (cells + 1) (slots + lenM k) Q (F0 m (pc + 5) ls rest)) : W p l e R s m args below meth c H locs cells slots Q (F0 m pc ls (.int n :: .ref xm :: rest)) := by
  have hlt := lenM_lt k
  have h600 : lenM k ≤ 600 := by
    unfold lenM
    split
    · decide
    · split <;> decide
  refine h_newi (N' := lenM k) S.1 S.2.1 hh (S.2.2.2.2 _ harr) (by rw [hn]; exact nI_pos hlt) (by rw [hn]; exact nI_clamp hlt) (by show lenM k * 4 ≤ 536870912; omega) hcells hslots d1 (fun q H1 hq h1 => ?_)
  have hxq : xm ≠ q := fun e => hq (e ▸ hp.1.1)
  refine h_putF S.1 S.2.1 S.2.2.2.2 S.2.2.2.1 h1 (C := RX6) (T := TX6) (N := 22) (List.mem_append_left _ hp.1.1) (by rw [show va_up f q (.inl (kI κ, lenM k, .inl (fun _ => 0))) xm = f xm by simp [va_up, hxq]]; exact hp.1.2) rfl hin tyX6 tyX6_ok nmX6 k (by omega) (S.2.2.2.2 _ hlink) (fun y h => by rw [hT] at h; exact h) hfin hnm hT (ty := .array .int) hty rfl rfl (by rw [show (pF b k).length = 22 from rfl]; omega) d2 (fun H2 locs2 h2 => ?_)
  exact kk q _ _ H2 locs2 h2 (hp.step hk hq)
end RMK
set_option maxRecDepth 100000 in
set_option maxHeartbeats 4000000 in
/-- CoalHulksModel(): fifteen rows of zeros -/
theorem c_model {l : Launch} {κ : Kx} {xm : Nat} {L : List Nat} {f : Nat → va_E} (hx0 : xm ∈ L) (hf0 : f xm = .inr (7, pF (fun _ => 0) 0)) : PC l κ yX6_init wsX6_init ({ frames := 1, cells := 15, slots := 1869, locals := 12 } : Room) [.ref xm] L f (fun v L1 f1 => v = none ∧ ∃ b, ZR κ xm b M00 L1 f1 f1 ∧ (∀ q, q ∈ L → q ∈ L1) ∧ ∀ q, q ∈ L → q ≠ xm → f1 q = f q) 15 1869 := by
  refine PC.mk (cc := cX6_init) (maxL := 1) (ret := none) (by decide) rfl (Nat.le_of_ble_eq_true rfl) ?_
  intro p e s m args below meth c ls hx hb hml hr hlk hnm hown hts hh hl
  have hl : lv_has ls 1 [(0, .ref xm)] := hl
  have S : CallFix p m c cX6_init 1 s args wsX6_init RX6 := ⟨hx, hb, hml, hown, hts⟩
  have hin : ∀ w ∈ wsX60, w ∈ wsX6_init := by decide +kernel
  have hp : PI κ xm 0 (fun _ => 0) L f L f := ⟨⟨hx0, hf0⟩, fun _ h => absurd h (Nat.not_lt_zero _), fun _ _ h => absurd h (Nat.not_lt_zero _), fun _ h => h, fun _ _ _ => rfl⟩
  refine lv_aload_n hx hb dX6_init_0 rfl (lv_at hl 0 rfl) ?_
  refine W.objInit hx hb hown (hts (.methodLink RX6 1 objectInit) (by decide +kernel)) (hts (.instanceMethod objectInit) (by decide +kernel)) (hts (.code objectInit ⟨#[0xb1]⟩ 1 none) (by decide +kernel)) rfl (by rw [hml]; exact hl.1) rfl dX6_init_1 (Nat.le_of_ble_eq_true rfl) (Nat.le_of_ble_eq_true rfl) ?_
  refine W.eq (g2 := F0 m 4 ls []) rfl ?_
  refine lv_aload_n hx hb dX6_init_4 rfl (lv_at hl 0 rfl) ?_
  refine lv_iconst (v := 3) hx hb dX6_init_5 (by decide) ?_
  refine r_mk S hh 0 hp hin hnm (by decide) (by decide +kernel) rfl rfl rfl rfl (by decide +kernel) (Nat.le_of_ble_eq_true rfl) (Nat.le_of_ble_eq_true rfl) dX6_init_6 dX6_init_8 (fun q0 L1 f1 H locs hh hp => ?_)
  refine lv_aload_n hx hb dX6_init_11 rfl (lv_at hl 0 rfl) ?_
  refine lv_bipush (v := 6) hx hb dX6_init_12 (by decide) ?_
  refine r_mk S hh 1 hp hin hnm (by decide) (by decide +kernel) rfl rfl rfl rfl (by decide +kernel) (Nat.le_of_ble_eq_true rfl) (Nat.le_of_ble_eq_true rfl) dX6_init_14 dX6_init_16 (fun q1 L1 f1 H locs hh hp => ?_)
  refine lv_aload_n hx hb dX6_init_19 rfl (lv_at hl 0 rfl) ?_
  refine lv_bipush (v := 6) hx hb dX6_init_20 (by decide) ?_
  refine r_mk S hh 2 hp hin hnm (by decide) (by decide +kernel) rfl rfl rfl rfl (by decide +kernel) (Nat.le_of_ble_eq_true rfl) (Nat.le_of_ble_eq_true rfl) dX6_init_22 dX6_init_24 (fun q2 L1 f1 H locs hh hp => ?_)
  refine lv_aload_n hx hb dX6_init_27 rfl (lv_at hl 0 rfl) ?_
  refine lv_bipush (v := 6) hx hb dX6_init_28 (by decide) ?_
  refine r_mk S hh 3 hp hin hnm (by decide) (by decide +kernel) rfl rfl rfl rfl (by decide +kernel) (Nat.le_of_ble_eq_true rfl) (Nat.le_of_ble_eq_true rfl) dX6_init_30 dX6_init_32 (fun q3 L1 f1 H locs hh hp => ?_)
  refine lv_aload_n hx hb dX6_init_35 rfl (lv_at hl 0 rfl) ?_
  refine lv_bipush (v := 6) hx hb dX6_init_36 (by decide) ?_
  refine r_mk S hh 4 hp hin hnm (by decide) (by decide +kernel) rfl rfl rfl rfl (by decide +kernel) (Nat.le_of_ble_eq_true rfl) (Nat.le_of_ble_eq_true rfl) dX6_init_38 dX6_init_40 (fun q4 L1 f1 H locs hh hp => ?_)
  refine lv_aload_n hx hb dX6_init_43 rfl (lv_at hl 0 rfl) ?_
  refine lv_bipush (v := 6) hx hb dX6_init_44 (by decide) ?_
  refine r_mk S hh 5 hp hin hnm (by decide) (by decide +kernel) rfl rfl rfl rfl (by decide +kernel) (Nat.le_of_ble_eq_true rfl) (Nat.le_of_ble_eq_true rfl) dX6_init_46 dX6_init_48 (fun q5 L1 f1 H locs hh hp => ?_)
  refine lv_aload_n hx hb dX6_init_51 rfl (lv_at hl 0 rfl) ?_
  refine lv_bipush (v := 6) hx hb dX6_init_52 (by decide) ?_
  refine r_mk S hh 6 hp hin hnm (by decide) (by decide +kernel) rfl rfl rfl rfl (by decide +kernel) (Nat.le_of_ble_eq_true rfl) (Nat.le_of_ble_eq_true rfl) dX6_init_54 dX6_init_56 (fun q6 L1 f1 H locs hh hp => ?_)
  refine lv_aload_n hx hb dX6_init_59 rfl (lv_at hl 0 rfl) ?_
  refine lv_bipush (v := 6) hx hb dX6_init_60 (by decide) ?_
  refine r_mk S hh 7 hp hin hnm (by decide) (by decide +kernel) rfl rfl rfl rfl (by decide +kernel) (Nat.le_of_ble_eq_true rfl) (Nat.le_of_ble_eq_true rfl) dX6_init_62 dX6_init_64 (fun q7 L1 f1 H locs hh hp => ?_)
  refine lv_aload_n hx hb dX6_init_67 rfl (lv_at hl 0 rfl) ?_
  refine lv_bipush (v := 6) hx hb dX6_init_68 (by decide) ?_
  refine r_mk S hh 8 hp hin hnm (by decide) (by decide +kernel) rfl rfl rfl rfl (by decide +kernel) (Nat.le_of_ble_eq_true rfl) (Nat.le_of_ble_eq_true rfl) dX6_init_70 dX6_init_72 (fun q8 L1 f1 H locs hh hp => ?_)
  refine lv_aload_n hx hb dX6_init_75 rfl (lv_at hl 0 rfl) ?_
  refine lv_bipush (v := 6) hx hb dX6_init_76 (by decide) ?_
  refine r_mk S hh 9 hp hin hnm (by decide) (by decide +kernel) rfl rfl rfl rfl (by decide +kernel) (Nat.le_of_ble_eq_true rfl) (Nat.le_of_ble_eq_true rfl) dX6_init_78 dX6_init_80 (fun q9 L1 f1 H locs hh hp => ?_)
  refine lv_aload_n hx hb dX6_init_83 rfl (lv_at hl 0 rfl) ?_
  refine lv_bipush (v := 6) hx hb dX6_init_84 (by decide) ?_
  refine r_mk S hh 10 hp hin hnm (by decide) (by decide +kernel) rfl rfl rfl rfl (by decide +kernel) (Nat.le_of_ble_eq_true rfl) (Nat.le_of_ble_eq_true rfl) dX6_init_86 dX6_init_88 (fun q10 L1 f1 H locs hh hp => ?_)
  refine lv_aload_n hx hb dX6_init_91 rfl (lv_at hl 0 rfl) ?_
  refine lv_bipush (v := 6) hx hb dX6_init_92 (by decide) ?_
  refine r_mk S hh 11 hp hin hnm (by decide) (by decide +kernel) rfl rfl rfl rfl (by decide +kernel) (Nat.le_of_ble_eq_true rfl) (Nat.le_of_ble_eq_true rfl) dX6_init_94 dX6_init_96 (fun q11 L1 f1 H locs hh hp => ?_)
  refine lv_aload_n hx hb dX6_init_99 rfl (lv_at hl 0 rfl) ?_
  refine lv_sipush (v := 600) hx hb dX6_init_100 (by decide) ?_
  refine r_mk S hh 12 hp hin hnm (by decide) (by decide +kernel) rfl rfl rfl rfl (by decide +kernel) (Nat.le_of_ble_eq_true rfl) (Nat.le_of_ble_eq_true rfl) dX6_init_103 dX6_init_105 (fun q12 L1 f1 H locs hh hp => ?_)
  refine lv_aload_n hx hb dX6_init_108 rfl (lv_at hl 0 rfl) ?_
  refine lv_sipush (v := 600) hx hb dX6_init_109 (by decide) ?_
  refine r_mk S hh 13 hp hin hnm (by decide) (by decide +kernel) rfl rfl rfl rfl (by decide +kernel) (Nat.le_of_ble_eq_true rfl) (Nat.le_of_ble_eq_true rfl) dX6_init_112 dX6_init_114 (fun q13 L1 f1 H locs hh hp => ?_)
  refine lv_aload_n hx hb dX6_init_117 rfl (lv_at hl 0 rfl) ?_
  refine lv_sipush (v := 600) hx hb dX6_init_118 (by decide) ?_
  refine r_mk S hh 14 hp hin hnm (by decide) (by decide +kernel) rfl rfl rfl rfl (by decide +kernel) (Nat.le_of_ble_eq_true rfl) (Nat.le_of_ble_eq_true rfl) dX6_init_121 dX6_init_123 (fun q14 L1 f1 H locs hh hp => ?_)
  exact k_cret hx hb hr hlk hh dX6_init_126 (Nat.le_of_ble_eq_true rfl) (Nat.le_of_ble_eq_true rfl) ⟨rfl, _, hp.done, hp.2.2.2.1, hp.2.2.2.2⟩
end
section
theorem dJ9_max_7cf53_0 : decode cJ9_max_7cf53 0 = .ok (.iload_n 0, 1) := by decide +kernel
theorem dJ9_max_7cf53_1 : decode cJ9_max_7cf53 1 = .ok (.iload_n 1, 1) := by decide +kernel
theorem dJ9_max_7cf53_2 : decode cJ9_max_7cf53 2 = .ok (.if_icmp .lt 7, 3) := by decide +kernel
theorem dJ9_max_7cf53_5 : decode cJ9_max_7cf53 5 = .ok (.iload_n 0, 1) := by decide +kernel
theorem dJ9_max_7cf53_6 : decode cJ9_max_7cf53 6 = .ok (.goto 4, 3) := by decide +kernel
theorem dJ9_max_7cf53_9 : decode cJ9_max_7cf53 9 = .ok (.iload_n 1, 1) := by decide +kernel
theorem dJ9_max_7cf53_10 : decode cJ9_max_7cf53 10 = .ok (.ireturn, 1) := by decide +kernel
theorem dJ9_min_7cf53_0 : decode cJ9_min_7cf53 0 = .ok (.iload_n 0, 1) := by decide +kernel
theorem dJ9_min_7cf53_1 : decode cJ9_min_7cf53 1 = .ok (.iload_n 1, 1) := by decide +kernel
theorem dJ9_min_7cf53_2 : decode cJ9_min_7cf53 2 = .ok (.if_icmp .gt 7, 3) := by decide +kernel
theorem dJ9_min_7cf53_5 : decode cJ9_min_7cf53 5 = .ok (.iload_n 0, 1) := by decide +kernel
theorem dJ9_min_7cf53_6 : decode cJ9_min_7cf53 6 = .ok (.goto 4, 3) := by decide +kernel
theorem dJ9_min_7cf53_9 : decode cJ9_min_7cf53 9 = .ok (.iload_n 1, 1) := by decide +kernel
theorem dJ9_min_7cf53_10 : decode cJ9_min_7cf53 10 = .ok (.ireturn, 1) := by decide +kernel
theorem dJxa1e45_init_da8c8_0 : decode cJxa1e45_init_da8c8 0 = .ok (.aload_n 0, 1) := by decide +kernel
theorem dJxa1e45_init_da8c8_1 : decode cJxa1e45_init_da8c8 1 = .ok (.invokespecial 1, 3) := by decide +kernel
theorem dJxa1e45_init_da8c8_4 : decode cJxa1e45_init_da8c8 4 = .ok (.return_, 1) := by decide +kernel
set_option maxRecDepth 20000 in
theorem ggJxc12de_init_da8c8_Jxa1e45_init_da8c8 : GoodIn wsJxc12de_init_da8c8 wsJxa1e45_init_da8c8 := goodIn_r _ [5, 6, 7, 8] (by decide +kernel) (by decide +kernel)
set_option maxRecDepth 20000 in
theorem gJxc12de_init_da8c8_Jxa1e45_init_da8c8 : GoodIn wsJxc12de_init_da8c8 (wsJxa1e45_init_da8c8) := ggJxc12de_init_da8c8_Jxa1e45_init_da8c8
theorem dJxc12de_init_da8c8_0 : decode cJxc12de_init_da8c8 0 = .ok (.aload_n 0, 1) := by decide +kernel
theorem dJxc12de_init_da8c8_1 : decode cJxc12de_init_da8c8 1 = .ok (.invokespecial 1, 3) := by decide +kernel
theorem dJxc12de_init_da8c8_4 : decode cJxc12de_init_da8c8 4 = .ok (.aload_n 0, 1) := by decide +kernel
theorem dJxc12de_init_da8c8_5 : decode cJxc12de_init_da8c8 5 = .ok (.iconst 0, 1) := by decide +kernel
theorem dJxc12de_init_da8c8_6 : decode cJxc12de_init_da8c8 6 = .ok (.putfield 7, 3) := by decide +kernel
theorem dJxc12de_init_da8c8_9 : decode cJxc12de_init_da8c8 9 = .ok (.return_, 1) := by decide +kernel
set_option maxRecDepth 20000 in
theorem ggJx4a65c_init_da8c8_Jxc12de_init_da8c8 : GoodIn wsJx4a65c_init_da8c8 wsJxc12de_init_da8c8 := goodIn_r _ [6, 7, 8, 9, 10, 11, 12, 13, 14, 15, 16, 17] (by decide +kernel) (by decide +kernel)
set_option maxRecDepth 20000 in
theorem gJx4a65c_init_da8c8_Jxc12de_init_da8c8 : GoodIn wsJx4a65c_init_da8c8 (wsJxc12de_init_da8c8) := ggJx4a65c_init_da8c8_Jxc12de_init_da8c8
theorem dJx4a65c_init_da8c8_0 : decode cJx4a65c_init_da8c8 0 = .ok (.aload_n 0, 1) := by decide +kernel
theorem dJx4a65c_init_da8c8_1 : decode cJx4a65c_init_da8c8 1 = .ok (.invokespecial 1, 3) := by decide +kernel
theorem dJx4a65c_init_da8c8_4 : decode cJx4a65c_init_da8c8 4 = .ok (.aload_n 0, 1) := by decide +kernel
theorem dJx4a65c_init_da8c8_5 : decode cJx4a65c_init_da8c8 5 = .ok (.getstatic 39, 3) := by decide +kernel
theorem dJx4a65c_init_da8c8_8 : decode cJx4a65c_init_da8c8 8 = .ok (.putfield 9, 3) := by decide +kernel
theorem dJx4a65c_init_da8c8_11 : decode cJx4a65c_init_da8c8 11 = .ok (.return_, 1) := by decide +kernel
set_option maxRecDepth 20000 in
theorem ggJx4a65c_grow_92f84_J8_newLength_cabcc : GoodIn wsJx4a65c_grow_92f84 wsJ8_newLength_cabcc := goodIn_r _ [11, 12, 4, 5, 6, 13, 14, 15, 10, 16] (by decide +kernel) (by decide +kernel)
set_option maxRecDepth 20000 in
theorem gJx4a65c_grow_92f84_J8_newLength_cabcc : GoodIn wsJx4a65c_grow_92f84 (va_wsS RJx4a65c 73 yJ8_newLength_cabcc wsJ8_newLength_cabcc) := goodIn_app (goodIn_of _ (by decide +kernel)) ggJx4a65c_grow_92f84_J8_newLength_cabcc
set_option maxRecDepth 20000 in
theorem ggJx4a65c_grow_92f84_J7_copyOf_1904c : GoodIn wsJx4a65c_grow_92f84 wsJ7_copyOf_1904c := goodIn_r _ [20, 21, 22, 23, 24, 25, 26, 19, 27, 28, 29, 30, 31, 5, 32, 33, 34, 35, 36] (by decide +kernel) (by decide +kernel)
set_option maxRecDepth 20000 in
theorem gJx4a65c_grow_92f84_J7_copyOf_1904c : GoodIn wsJx4a65c_grow_92f84 (va_wsS RJx4a65c 66 yJ7_copyOf_1904c wsJ7_copyOf_1904c) := goodIn_app (goodIn_of _ (by decide +kernel)) ggJx4a65c_grow_92f84_J7_copyOf_1904c
theorem dJx4a65c_grow_92f84_0 : decode cJx4a65c_grow_92f84 0 = .ok (.aload_n 0, 1) := by decide +kernel
theorem dJx4a65c_grow_92f84_1 : decode cJx4a65c_grow_92f84 1 = .ok (.getfield 9, 3) := by decide +kernel
theorem dJx4a65c_grow_92f84_4 : decode cJx4a65c_grow_92f84 4 = .ok (.arraylength, 1) := by decide +kernel
theorem dJx4a65c_grow_92f84_5 : decode cJx4a65c_grow_92f84 5 = .ok (.istore_n 2, 1) := by decide +kernel
theorem dJx4a65c_grow_92f84_6 : decode cJx4a65c_grow_92f84 6 = .ok (.iload_n 2, 1) := by decide +kernel
theorem dJx4a65c_grow_92f84_7 : decode cJx4a65c_grow_92f84 7 = .ok (.ifCond .gt 13, 3) := by decide +kernel
theorem dJx4a65c_grow_92f84_10 : decode cJx4a65c_grow_92f84 10 = .ok (.aload_n 0, 1) := by decide +kernel
theorem dJx4a65c_grow_92f84_11 : decode cJx4a65c_grow_92f84 11 = .ok (.getfield 9, 3) := by decide +kernel
theorem dJx4a65c_grow_92f84_14 : decode cJx4a65c_grow_92f84 14 = .ok (.getstatic 39, 3) := by decide +kernel
theorem dJx4a65c_grow_92f84_17 : decode cJx4a65c_grow_92f84 17 = .ok (.if_acmp .eq 28, 3) := by decide +kernel
theorem dJx4a65c_grow_92f84_20 : decode cJx4a65c_grow_92f84 20 = .ok (.iload_n 2, 1) := by decide +kernel
theorem dJx4a65c_grow_92f84_21 : decode cJx4a65c_grow_92f84 21 = .ok (.iload_n 1, 1) := by decide +kernel
theorem dJx4a65c_grow_92f84_22 : decode cJx4a65c_grow_92f84 22 = .ok (.iload_n 2, 1) := by decide +kernel
theorem dJx4a65c_grow_92f84_23 : decode cJx4a65c_grow_92f84 23 = .ok (.isub, 1) := by decide +kernel
theorem dJx4a65c_grow_92f84_24 : decode cJx4a65c_grow_92f84 24 = .ok (.iload_n 2, 1) := by decide +kernel
theorem dJx4a65c_grow_92f84_25 : decode cJx4a65c_grow_92f84 25 = .ok (.iconst 1, 1) := by decide +kernel
theorem dJx4a65c_grow_92f84_26 : decode cJx4a65c_grow_92f84 26 = .ok (.ishr, 1) := by decide +kernel
theorem dJx4a65c_grow_92f84_27 : decode cJx4a65c_grow_92f84 27 = .ok (.invokestatic 73, 3) := by decide +kernel
theorem dJx4a65c_grow_92f84_30 : decode cJx4a65c_grow_92f84 30 = .ok (.istore_n 3, 1) := by decide +kernel
theorem dJx4a65c_grow_92f84_31 : decode cJx4a65c_grow_92f84 31 = .ok (.aload_n 0, 1) := by decide +kernel
theorem dJx4a65c_grow_92f84_32 : decode cJx4a65c_grow_92f84 32 = .ok (.aload_n 0, 1) := by decide +kernel
theorem dJx4a65c_grow_92f84_33 : decode cJx4a65c_grow_92f84 33 = .ok (.getfield 9, 3) := by decide +kernel
theorem dJx4a65c_grow_92f84_36 : decode cJx4a65c_grow_92f84 36 = .ok (.iload_n 3, 1) := by decide +kernel
theorem dJx4a65c_grow_92f84_37 : decode cJx4a65c_grow_92f84 37 = .ok (.invokestatic 66, 3) := by decide +kernel
theorem dJx4a65c_grow_92f84_40 : decode cJx4a65c_grow_92f84 40 = .ok (.dup_x1, 1) := by decide +kernel
theorem dJx4a65c_grow_92f84_41 : decode cJx4a65c_grow_92f84 41 = .ok (.putfield 9, 3) := by decide +kernel
theorem dJx4a65c_grow_92f84_44 : decode cJx4a65c_grow_92f84 44 = .ok (.areturn, 1) := by decide +kernel
theorem dJx4a65c_grow_92f84_45 : decode cJx4a65c_grow_92f84 45 = .ok (.aload_n 0, 1) := by decide +kernel
theorem dJx4a65c_grow_92f84_46 : decode cJx4a65c_grow_92f84 46 = .ok (.bipush 10, 2) := by decide +kernel
theorem dJx4a65c_grow_92f84_48 : decode cJx4a65c_grow_92f84 48 = .ok (.iload_n 1, 1) := by decide +kernel
theorem dJx4a65c_grow_92f84_49 : decode cJx4a65c_grow_92f84 49 = .ok (.invokestatic 79, 3) := by decide +kernel
theorem dJx4a65c_grow_92f84_52 : decode cJx4a65c_grow_92f84 52 = .ok (.anewarray 7, 3) := by decide +kernel
theorem dJx4a65c_grow_92f84_55 : decode cJx4a65c_grow_92f84 55 = .ok (.dup_x1, 1) := by decide +kernel
theorem dJx4a65c_grow_92f84_56 : decode cJx4a65c_grow_92f84 56 = .ok (.putfield 9, 3) := by decide +kernel
theorem dJx4a65c_grow_92f84_59 : decode cJx4a65c_grow_92f84 59 = .ok (.areturn, 1) := by decide +kernel
set_option maxRecDepth 20000 in
theorem ggJx4a65c_grow_d5877_Jx4a65c_grow_92f84 : GoodIn wsJx4a65c_grow_d5877 wsJx4a65c_grow_92f84 := goodIn_r _ [6, 7, 8, 9, 10, 11, 12, 13, 14, 15, 16, 17, 18, 19, 20, 21, 22, 23, 24, 25, 26, 27, 28, 29, 30, 31, 32, 33, 34, 35, 36, 37, 38, 39, 40, 41, 42, 43, 44, 45] (by decide +kernel) (by decide +kernel)
set_option maxRecDepth 20000 in
theorem gJx4a65c_grow_d5877_Jx4a65c_grow_92f84 : GoodIn wsJx4a65c_grow_d5877 (wsV RJx4a65c 69 RJx4a65c yJx4a65c_grow_92f84 wsJx4a65c_grow_92f84) := goodIn_app (goodIn_of _ (by decide +kernel)) ggJx4a65c_grow_d5877_Jx4a65c_grow_92f84
theorem dJx4a65c_grow_d5877_0 : decode cJx4a65c_grow_d5877 0 = .ok (.aload_n 0, 1) := by decide +kernel
theorem dJx4a65c_grow_d5877_1 : decode cJx4a65c_grow_d5877 1 = .ok (.aload_n 0, 1) := by decide +kernel
theorem dJx4a65c_grow_d5877_2 : decode cJx4a65c_grow_d5877 2 = .ok (.getfield 48, 3) := by decide +kernel
theorem dJx4a65c_grow_d5877_5 : decode cJx4a65c_grow_d5877 5 = .ok (.iconst 1, 1) := by decide +kernel
theorem dJx4a65c_grow_d5877_6 : decode cJx4a65c_grow_d5877 6 = .ok (.iadd, 1) := by decide +kernel
theorem dJx4a65c_grow_d5877_7 : decode cJx4a65c_grow_d5877 7 = .ok (.invokevirtual 69, 3) := by decide +kernel
theorem dJx4a65c_grow_d5877_10 : decode cJx4a65c_grow_d5877 10 = .ok (.areturn, 1) := by decide +kernel
theorem dJx4a65c_size_8abf5_0 : decode cJx4a65c_size_8abf5 0 = .ok (.aload_n 0, 1) := by decide +kernel
theorem dJx4a65c_size_8abf5_1 : decode cJx4a65c_size_8abf5 1 = .ok (.getfield 48, 3) := by decide +kernel
theorem dJx4a65c_size_8abf5_4 : decode cJx4a65c_size_8abf5 4 = .ok (.ireturn, 1) := by decide +kernel
theorem dJx4a65c_isEmpty_aae02_0 : decode cJx4a65c_isEmpty_aae02 0 = .ok (.aload_n 0, 1) := by decide +kernel
theorem dJx4a65c_isEmpty_aae02_1 : decode cJx4a65c_isEmpty_aae02 1 = .ok (.getfield 48, 3) := by decide +kernel
theorem dJx4a65c_isEmpty_aae02_4 : decode cJx4a65c_isEmpty_aae02 4 = .ok (.ifCond .ne 7, 3) := by decide +kernel
theorem dJx4a65c_isEmpty_aae02_7 : decode cJx4a65c_isEmpty_aae02 7 = .ok (.iconst 1, 1) := by decide +kernel
theorem dJx4a65c_isEmpty_aae02_8 : decode cJx4a65c_isEmpty_aae02 8 = .ok (.goto 4, 3) := by decide +kernel
theorem dJx4a65c_isEmpty_aae02_11 : decode cJx4a65c_isEmpty_aae02 11 = .ok (.iconst 0, 1) := by decide +kernel
theorem dJx4a65c_isEmpty_aae02_12 : decode cJx4a65c_isEmpty_aae02 12 = .ok (.ireturn, 1) := by decide +kernel
theorem dJx4a65c_elementData_915e3_0 : decode cJx4a65c_elementData_915e3 0 = .ok (.aload_n 0, 1) := by decide +kernel
theorem dJx4a65c_elementData_915e3_1 : decode cJx4a65c_elementData_915e3 1 = .ok (.getfield 9, 3) := by decide +kernel
theorem dJx4a65c_elementData_915e3_4 : decode cJx4a65c_elementData_915e3 4 = .ok (.iload_n 1, 1) := by decide +kernel
theorem dJx4a65c_elementData_915e3_5 : decode cJx4a65c_elementData_915e3 5 = .ok (.aaload, 1) := by decide +kernel
theorem dJx4a65c_elementData_915e3_6 : decode cJx4a65c_elementData_915e3 6 = .ok (.areturn, 1) := by decide +kernel
set_option maxRecDepth 20000 in
theorem ggJx4a65c_get_915e3_J15_checkIndex_7cf53 : GoodIn wsJx4a65c_get_915e3 wsJ15_checkIndex_7cf53 := goodIn_r _ [5, 6, 7, 8, 9] (by decide +kernel) (by decide +kernel)
set_option maxRecDepth 20000 in
theorem gJx4a65c_get_915e3_J15_checkIndex_7cf53 : GoodIn wsJx4a65c_get_915e3 (va_wsS RJx4a65c 118 yJ15_checkIndex_7cf53 wsJ15_checkIndex_7cf53) := goodIn_app (goodIn_of _ (by decide +kernel)) ggJx4a65c_get_915e3_J15_checkIndex_7cf53
set_option maxRecDepth 20000 in
theorem ggJx4a65c_get_915e3_Jx4a65c_elementData_915e3 : GoodIn wsJx4a65c_get_915e3 wsJx4a65c_elementData_915e3 := goodIn_r _ [14, 15, 16, 17, 18] (by decide +kernel) (by decide +kernel)
set_option maxRecDepth 20000 in
theorem gJx4a65c_get_915e3_Jx4a65c_elementData_915e3 : GoodIn wsJx4a65c_get_915e3 (wsV RJx4a65c 123 RJx4a65c yJx4a65c_elementData_915e3 wsJx4a65c_elementData_915e3) := goodIn_app (goodIn_of _ (by decide +kernel)) ggJx4a65c_get_915e3_Jx4a65c_elementData_915e3
theorem dJx4a65c_get_915e3_0 : decode cJx4a65c_get_915e3 0 = .ok (.iload_n 1, 1) := by decide +kernel
theorem dJx4a65c_get_915e3_1 : decode cJx4a65c_get_915e3 1 = .ok (.aload_n 0, 1) := by decide +kernel
theorem dJx4a65c_get_915e3_2 : decode cJx4a65c_get_915e3 2 = .ok (.getfield 48, 3) := by decide +kernel
theorem dJx4a65c_get_915e3_5 : decode cJx4a65c_get_915e3 5 = .ok (.invokestatic 118, 3) := by decide +kernel
theorem dJx4a65c_get_915e3_8 : decode cJx4a65c_get_915e3 8 = .ok (.pop, 1) := by decide +kernel
theorem dJx4a65c_get_915e3_9 : decode cJx4a65c_get_915e3 9 = .ok (.aload_n 0, 1) := by decide +kernel
theorem dJx4a65c_get_915e3_10 : decode cJx4a65c_get_915e3 10 = .ok (.iload_n 1, 1) := by decide +kernel
theorem dJx4a65c_get_915e3_11 : decode cJx4a65c_get_915e3 11 = .ok (.invokevirtual 123, 3) := by decide +kernel
theorem dJx4a65c_get_915e3_14 : decode cJx4a65c_get_915e3 14 = .ok (.areturn, 1) := by decide +kernel
set_option maxRecDepth 20000 in
theorem ggJx4a65c_add_72be8_Jx4a65c_grow_d5877 : GoodIn wsJx4a65c_add_72be8 wsJx4a65c_grow_d5877 := goodIn_r _ [6, 1, 7, 8, 9, 5, 10, 11, 12, 13, 14, 15, 16, 17, 18, 19, 20, 21, 22, 23, 24, 25, 26, 27, 28, 29, 30, 31, 32, 33, 34, 35, 36, 37, 38, 39, 40, 41, 42, 43, 44, 45, 46, 47, 48, 49] (by decide +kernel) (by decide +kernel)
set_option maxRecDepth 20000 in
theorem gJx4a65c_add_72be8_Jx4a65c_grow_d5877 : GoodIn wsJx4a65c_add_72be8 (wsV RJx4a65c 129 RJx4a65c yJx4a65c_grow_d5877 wsJx4a65c_grow_d5877) := goodIn_app (goodIn_of _ (by decide +kernel)) ggJx4a65c_add_72be8_Jx4a65c_grow_d5877
theorem dJx4a65c_add_72be8_0 : decode cJx4a65c_add_72be8 0 = .ok (.iload_n 3, 1) := by decide +kernel
theorem dJx4a65c_add_72be8_1 : decode cJx4a65c_add_72be8 1 = .ok (.aload_n 2, 1) := by decide +kernel
theorem dJx4a65c_add_72be8_2 : decode cJx4a65c_add_72be8 2 = .ok (.arraylength, 1) := by decide +kernel
theorem dJx4a65c_add_72be8_3 : decode cJx4a65c_add_72be8 3 = .ok (.if_icmp .ne 8, 3) := by decide +kernel
theorem dJx4a65c_add_72be8_6 : decode cJx4a65c_add_72be8 6 = .ok (.aload_n 0, 1) := by decide +kernel
theorem dJx4a65c_add_72be8_7 : decode cJx4a65c_add_72be8 7 = .ok (.invokevirtual 129, 3) := by decide +kernel
theorem dJx4a65c_add_72be8_10 : decode cJx4a65c_add_72be8 10 = .ok (.astore_n 2, 1) := by decide +kernel
theorem dJx4a65c_add_72be8_11 : decode cJx4a65c_add_72be8 11 = .ok (.aload_n 2, 1) := by decide +kernel
theorem dJx4a65c_add_72be8_12 : decode cJx4a65c_add_72be8 12 = .ok (.iload_n 3, 1) := by decide +kernel
theorem dJx4a65c_add_72be8_13 : decode cJx4a65c_add_72be8 13 = .ok (.aload_n 1, 1) := by decide +kernel
theorem dJx4a65c_add_72be8_14 : decode cJx4a65c_add_72be8 14 = .ok (.aastore, 1) := by decide +kernel
theorem dJx4a65c_add_72be8_15 : decode cJx4a65c_add_72be8 15 = .ok (.aload_n 0, 1) := by decide +kernel
theorem dJx4a65c_add_72be8_16 : decode cJx4a65c_add_72be8 16 = .ok (.iload_n 3, 1) := by decide +kernel
theorem dJx4a65c_add_72be8_17 : decode cJx4a65c_add_72be8 17 = .ok (.iconst 1, 1) := by decide +kernel
theorem dJx4a65c_add_72be8_18 : decode cJx4a65c_add_72be8 18 = .ok (.iadd, 1) := by decide +kernel
theorem dJx4a65c_add_72be8_19 : decode cJx4a65c_add_72be8 19 = .ok (.putfield 48, 3) := by decide +kernel
theorem dJx4a65c_add_72be8_22 : decode cJx4a65c_add_72be8 22 = .ok (.return_, 1) := by decide +kernel
set_option maxRecDepth 20000 in
theorem ggJx4a65c_add_9ea2d_Jx4a65c_add_72be8 : GoodIn wsJx4a65c_add_9ea2d wsJx4a65c_add_72be8 := goodIn_r _ [9, 4, 10, 11, 12, 8, 13, 14, 15, 16, 17, 3, 18, 19, 20, 21, 22, 23, 24, 25, 26, 27, 28, 29, 30, 31, 32, 33, 34, 35, 36, 37, 38, 39, 40, 41, 42, 43, 44, 45, 46, 47, 48, 49, 50, 51, 52, 53, 54, 55] (by decide +kernel) (by decide +kernel)
set_option maxRecDepth 20000 in
theorem gJx4a65c_add_9ea2d_Jx4a65c_add_72be8 : GoodIn wsJx4a65c_add_9ea2d (wsV RJx4a65c 131 RJx4a65c yJx4a65c_add_72be8 wsJx4a65c_add_72be8) := goodIn_app (goodIn_of _ (by decide +kernel)) ggJx4a65c_add_9ea2d_Jx4a65c_add_72be8
theorem dJx4a65c_add_9ea2d_0 : decode cJx4a65c_add_9ea2d 0 = .ok (.aload_n 0, 1) := by decide +kernel
theorem dJx4a65c_add_9ea2d_1 : decode cJx4a65c_add_9ea2d 1 = .ok (.dup, 1) := by decide +kernel
theorem dJx4a65c_add_9ea2d_2 : decode cJx4a65c_add_9ea2d 2 = .ok (.getfield 63, 3) := by decide +kernel
theorem dJx4a65c_add_9ea2d_5 : decode cJx4a65c_add_9ea2d 5 = .ok (.iconst 1, 1) := by decide +kernel
theorem dJx4a65c_add_9ea2d_6 : decode cJx4a65c_add_9ea2d 6 = .ok (.iadd, 1) := by decide +kernel
theorem dJx4a65c_add_9ea2d_7 : decode cJx4a65c_add_9ea2d 7 = .ok (.putfield 63, 3) := by decide +kernel
theorem dJx4a65c_add_9ea2d_10 : decode cJx4a65c_add_9ea2d 10 = .ok (.aload_n 0, 1) := by decide +kernel
theorem dJx4a65c_add_9ea2d_11 : decode cJx4a65c_add_9ea2d 11 = .ok (.aload_n 1, 1) := by decide +kernel
theorem dJx4a65c_add_9ea2d_12 : decode cJx4a65c_add_9ea2d 12 = .ok (.aload_n 0, 1) := by decide +kernel
theorem dJx4a65c_add_9ea2d_13 : decode cJx4a65c_add_9ea2d 13 = .ok (.getfield 9, 3) := by decide +kernel
theorem dJx4a65c_add_9ea2d_16 : decode cJx4a65c_add_9ea2d 16 = .ok (.aload_n 0, 1) := by decide +kernel
theorem dJx4a65c_add_9ea2d_17 : decode cJx4a65c_add_9ea2d 17 = .ok (.getfield 48, 3) := by decide +kernel
theorem dJx4a65c_add_9ea2d_20 : decode cJx4a65c_add_9ea2d 20 = .ok (.invokevirtual 131, 3) := by decide +kernel
theorem dJx4a65c_add_9ea2d_23 : decode cJx4a65c_add_9ea2d 23 = .ok (.iconst 1, 1) := by decide +kernel
theorem dJx4a65c_add_9ea2d_24 : decode cJx4a65c_add_9ea2d 24 = .ok (.ireturn, 1) := by decide +kernel
set_option maxRecDepth 20000 in
theorem ggJx4a65c_remove_915e3_J15_checkIndex_7cf53 : GoodIn wsJx4a65c_remove_915e3 wsJ15_checkIndex_7cf53 := goodIn_r _ [6, 7, 8, 9, 10] (by decide +kernel) (by decide +kernel)
set_option maxRecDepth 20000 in
theorem gJx4a65c_remove_915e3_J15_checkIndex_7cf53 : GoodIn wsJx4a65c_remove_915e3 (va_wsS RJx4a65c 118 yJ15_checkIndex_7cf53 wsJ15_checkIndex_7cf53) := goodIn_app (goodIn_of _ (by decide +kernel)) ggJx4a65c_remove_915e3_J15_checkIndex_7cf53
set_option maxRecDepth 20000 in
theorem ggJx4a65c_remove_915e3_Jx4a65c_fastRemove_b59b0 : GoodIn wsJx4a65c_remove_915e3 wsJx4a65c_fastRemove_b59b0 := goodIn_r _ [15, 16, 17, 1, 18, 19, 20, 21, 22, 23, 24] (by decide +kernel) (by decide +kernel)
set_option maxRecDepth 20000 in
theorem gJx4a65c_remove_915e3_Jx4a65c_fastRemove_b59b0 : GoodIn wsJx4a65c_remove_915e3 (wsV RJx4a65c 144 RJx4a65c yJx4a65c_fastRemove_b59b0 wsJx4a65c_fastRemove_b59b0) := goodIn_app (goodIn_of _ (by decide +kernel)) ggJx4a65c_remove_915e3_Jx4a65c_fastRemove_b59b0
theorem dJx4a65c_remove_915e3_0 : decode cJx4a65c_remove_915e3 0 = .ok (.iload_n 1, 1) := by decide +kernel
theorem dJx4a65c_remove_915e3_1 : decode cJx4a65c_remove_915e3 1 = .ok (.aload_n 0, 1) := by decide +kernel
theorem dJx4a65c_remove_915e3_2 : decode cJx4a65c_remove_915e3 2 = .ok (.getfield 48, 3) := by decide +kernel
theorem dJx4a65c_remove_915e3_5 : decode cJx4a65c_remove_915e3 5 = .ok (.invokestatic 118, 3) := by decide +kernel
theorem dJx4a65c_remove_915e3_8 : decode cJx4a65c_remove_915e3 8 = .ok (.pop, 1) := by decide +kernel
theorem dJx4a65c_remove_915e3_9 : decode cJx4a65c_remove_915e3 9 = .ok (.aload_n 0, 1) := by decide +kernel
theorem dJx4a65c_remove_915e3_10 : decode cJx4a65c_remove_915e3 10 = .ok (.getfield 9, 3) := by decide +kernel
theorem dJx4a65c_remove_915e3_13 : decode cJx4a65c_remove_915e3 13 = .ok (.astore_n 2, 1) := by decide +kernel
theorem dJx4a65c_remove_915e3_14 : decode cJx4a65c_remove_915e3 14 = .ok (.aload_n 2, 1) := by decide +kernel
theorem dJx4a65c_remove_915e3_15 : decode cJx4a65c_remove_915e3 15 = .ok (.iload_n 1, 1) := by decide +kernel
theorem dJx4a65c_remove_915e3_16 : decode cJx4a65c_remove_915e3 16 = .ok (.aaload, 1) := by decide +kernel
theorem dJx4a65c_remove_915e3_17 : decode cJx4a65c_remove_915e3 17 = .ok (.astore_n 3, 1) := by decide +kernel
theorem dJx4a65c_remove_915e3_18 : decode cJx4a65c_remove_915e3 18 = .ok (.aload_n 0, 1) := by decide +kernel
theorem dJx4a65c_remove_915e3_19 : decode cJx4a65c_remove_915e3 19 = .ok (.aload_n 2, 1) := by decide +kernel
theorem dJx4a65c_remove_915e3_20 : decode cJx4a65c_remove_915e3 20 = .ok (.iload_n 1, 1) := by decide +kernel
theorem dJx4a65c_remove_915e3_21 : decode cJx4a65c_remove_915e3 21 = .ok (.invokevirtual 144, 3) := by decide +kernel
theorem dJx4a65c_remove_915e3_24 : decode cJx4a65c_remove_915e3 24 = .ok (.aload_n 3, 1) := by decide +kernel
theorem dJx4a65c_remove_915e3_25 : decode cJx4a65c_remove_915e3 25 = .ok (.areturn, 1) := by decide +kernel
theorem dJx4a65c_fastRemove_b59b0_0 : decode cJx4a65c_fastRemove_b59b0 0 = .ok (.aload_n 0, 1) := by decide +kernel
theorem dJx4a65c_fastRemove_b59b0_1 : decode cJx4a65c_fastRemove_b59b0 1 = .ok (.dup, 1) := by decide +kernel
theorem dJx4a65c_fastRemove_b59b0_2 : decode cJx4a65c_fastRemove_b59b0 2 = .ok (.getfield 63, 3) := by decide +kernel
theorem dJx4a65c_fastRemove_b59b0_5 : decode cJx4a65c_fastRemove_b59b0 5 = .ok (.iconst 1, 1) := by decide +kernel
theorem dJx4a65c_fastRemove_b59b0_6 : decode cJx4a65c_fastRemove_b59b0 6 = .ok (.iadd, 1) := by decide +kernel
theorem dJx4a65c_fastRemove_b59b0_7 : decode cJx4a65c_fastRemove_b59b0 7 = .ok (.putfield 63, 3) := by decide +kernel
theorem dJx4a65c_fastRemove_b59b0_10 : decode cJx4a65c_fastRemove_b59b0 10 = .ok (.aload_n 0, 1) := by decide +kernel
theorem dJx4a65c_fastRemove_b59b0_11 : decode cJx4a65c_fastRemove_b59b0 11 = .ok (.getfield 48, 3) := by decide +kernel
theorem dJx4a65c_fastRemove_b59b0_14 : decode cJx4a65c_fastRemove_b59b0 14 = .ok (.iconst 1, 1) := by decide +kernel
theorem dJx4a65c_fastRemove_b59b0_15 : decode cJx4a65c_fastRemove_b59b0 15 = .ok (.isub, 1) := by decide +kernel
theorem dJx4a65c_fastRemove_b59b0_16 : decode cJx4a65c_fastRemove_b59b0 16 = .ok (.dup, 1) := by decide +kernel
theorem dJx4a65c_fastRemove_b59b0_17 : decode cJx4a65c_fastRemove_b59b0 17 = .ok (.istore_n 3, 1) := by decide +kernel
theorem dJx4a65c_fastRemove_b59b0_18 : decode cJx4a65c_fastRemove_b59b0 18 = .ok (.iload_n 2, 1) := by decide +kernel
theorem dJx4a65c_fastRemove_b59b0_19 : decode cJx4a65c_fastRemove_b59b0 19 = .ok (.if_icmp .le 15, 3) := by decide +kernel
theorem dJx4a65c_fastRemove_b59b0_22 : decode cJx4a65c_fastRemove_b59b0 22 = .ok (.aload_n 1, 1) := by decide +kernel
theorem dJx4a65c_fastRemove_b59b0_23 : decode cJx4a65c_fastRemove_b59b0 23 = .ok (.iload_n 2, 1) := by decide +kernel
theorem dJx4a65c_fastRemove_b59b0_24 : decode cJx4a65c_fastRemove_b59b0 24 = .ok (.iconst 1, 1) := by decide +kernel
theorem dJx4a65c_fastRemove_b59b0_25 : decode cJx4a65c_fastRemove_b59b0 25 = .ok (.iadd, 1) := by decide +kernel
theorem dJx4a65c_fastRemove_b59b0_26 : decode cJx4a65c_fastRemove_b59b0 26 = .ok (.aload_n 1, 1) := by decide +kernel
theorem dJx4a65c_fastRemove_b59b0_27 : decode cJx4a65c_fastRemove_b59b0 27 = .ok (.iload_n 2, 1) := by decide +kernel
theorem dJx4a65c_fastRemove_b59b0_28 : decode cJx4a65c_fastRemove_b59b0 28 = .ok (.iload_n 3, 1) := by decide +kernel
theorem dJx4a65c_fastRemove_b59b0_29 : decode cJx4a65c_fastRemove_b59b0 29 = .ok (.iload_n 2, 1) := by decide +kernel
theorem dJx4a65c_fastRemove_b59b0_30 : decode cJx4a65c_fastRemove_b59b0 30 = .ok (.isub, 1) := by decide +kernel
theorem dJx4a65c_fastRemove_b59b0_31 : decode cJx4a65c_fastRemove_b59b0 31 = .ok (.invokestatic 112, 3) := by decide +kernel
theorem dJx4a65c_fastRemove_b59b0_34 : decode cJx4a65c_fastRemove_b59b0 34 = .ok (.aload_n 1, 1) := by decide +kernel
theorem dJx4a65c_fastRemove_b59b0_35 : decode cJx4a65c_fastRemove_b59b0 35 = .ok (.aload_n 0, 1) := by decide +kernel
theorem dJx4a65c_fastRemove_b59b0_36 : decode cJx4a65c_fastRemove_b59b0 36 = .ok (.iload_n 3, 1) := by decide +kernel
theorem dJx4a65c_fastRemove_b59b0_37 : decode cJx4a65c_fastRemove_b59b0 37 = .ok (.dup_x1, 1) := by decide +kernel
theorem dJx4a65c_fastRemove_b59b0_38 : decode cJx4a65c_fastRemove_b59b0 38 = .ok (.putfield 48, 3) := by decide +kernel
theorem dJx4a65c_fastRemove_b59b0_41 : decode cJx4a65c_fastRemove_b59b0 41 = .ok (.aconst_null, 1) := by decide +kernel
theorem dJx4a65c_fastRemove_b59b0_42 : decode cJx4a65c_fastRemove_b59b0 42 = .ok (.aastore, 1) := by decide +kernel
theorem dJx4a65c_fastRemove_b59b0_43 : decode cJx4a65c_fastRemove_b59b0 43 = .ok (.return_, 1) := by decide +kernel
set_option maxRecDepth 20000 in
theorem ggJ7_copyOf_1904c_J7_copyOf_6403c : GoodIn wsJ7_copyOf_1904c wsJ7_copyOf_6403c := goodIn_r _ [8, 9, 10, 11, 12, 13, 14, 15, 16, 17, 18] (by decide +kernel) (by decide +kernel)
set_option maxRecDepth 20000 in
theorem gJ7_copyOf_1904c_J7_copyOf_6403c : GoodIn wsJ7_copyOf_1904c (va_wsS RJ7 300 yJ7_copyOf_6403c wsJ7_copyOf_6403c) := goodIn_app (goodIn_of _ (by decide +kernel)) ggJ7_copyOf_1904c_J7_copyOf_6403c
theorem dJ7_copyOf_1904c_0 : decode cJ7_copyOf_1904c 0 = .ok (.aload_n 0, 1) := by decide +kernel
theorem dJ7_copyOf_1904c_1 : decode cJ7_copyOf_1904c 1 = .ok (.iload_n 1, 1) := by decide +kernel
theorem dJ7_copyOf_1904c_2 : decode cJ7_copyOf_1904c 2 = .ok (.aload_n 0, 1) := by decide +kernel
theorem dJ7_copyOf_1904c_3 : decode cJ7_copyOf_1904c 3 = .ok (.invokevirtual 86, 3) := by decide +kernel
theorem dJ7_copyOf_1904c_6 : decode cJ7_copyOf_1904c 6 = .ok (.invokestatic 300, 3) := by decide +kernel
theorem dJ7_copyOf_1904c_9 : decode cJ7_copyOf_1904c 9 = .ok (.areturn, 1) := by decide +kernel
theorem dJ7_copyOf_6403c_0 : decode cJ7_copyOf_6403c 0 = .ok (.aload_n 2, 1) := by decide +kernel
theorem dJ7_copyOf_6403c_1 : decode cJ7_copyOf_6403c 1 = .ok (.ldc 110, 2) := by decide +kernel
theorem dJ7_copyOf_6403c_3 : decode cJ7_copyOf_6403c 3 = .ok (.if_acmp .ne 10, 3) := by decide +kernel
theorem dJ7_copyOf_6403c_6 : decode cJ7_copyOf_6403c 6 = .ok (.iload_n 1, 1) := by decide +kernel
theorem dJ7_copyOf_6403c_7 : decode cJ7_copyOf_6403c 7 = .ok (.anewarray 2, 3) := by decide +kernel
theorem dJ7_copyOf_6403c_10 : decode cJ7_copyOf_6403c 10 = .ok (.goto 14, 3) := by decide +kernel
theorem dJ7_copyOf_6403c_13 : decode cJ7_copyOf_6403c 13 = .ok (.aload_n 2, 1) := by decide +kernel
theorem dJ7_copyOf_6403c_14 : decode cJ7_copyOf_6403c 14 = .ok (.invokevirtual 90, 3) := by decide +kernel
theorem dJ7_copyOf_6403c_17 : decode cJ7_copyOf_6403c 17 = .ok (.iload_n 1, 1) := by decide +kernel
theorem dJ7_copyOf_6403c_18 : decode cJ7_copyOf_6403c 18 = .ok (.invokestatic 95, 3) := by decide +kernel
theorem dJ7_copyOf_6403c_21 : decode cJ7_copyOf_6403c 21 = .ok (.checkcast 110, 3) := by decide +kernel
theorem dJ7_copyOf_6403c_24 : decode cJ7_copyOf_6403c 24 = .ok (.astore_n 3, 1) := by decide +kernel
theorem dJ7_copyOf_6403c_25 : decode cJ7_copyOf_6403c 25 = .ok (.aload_n 0, 1) := by decide +kernel
theorem dJ7_copyOf_6403c_26 : decode cJ7_copyOf_6403c 26 = .ok (.iconst 0, 1) := by decide +kernel
theorem dJ7_copyOf_6403c_27 : decode cJ7_copyOf_6403c 27 = .ok (.aload_n 3, 1) := by decide +kernel
theorem dJ7_copyOf_6403c_28 : decode cJ7_copyOf_6403c 28 = .ok (.iconst 0, 1) := by decide +kernel
theorem dJ7_copyOf_6403c_29 : decode cJ7_copyOf_6403c 29 = .ok (.aload_n 0, 1) := by decide +kernel
theorem dJ7_copyOf_6403c_30 : decode cJ7_copyOf_6403c 30 = .ok (.arraylength, 1) := by decide +kernel
theorem dJ7_copyOf_6403c_31 : decode cJ7_copyOf_6403c 31 = .ok (.iload_n 1, 1) := by decide +kernel
theorem dJ7_copyOf_6403c_32 : decode cJ7_copyOf_6403c 32 = .ok (.invokestatic 304, 3) := by decide +kernel
theorem dJ7_copyOf_6403c_35 : decode cJ7_copyOf_6403c 35 = .ok (.invokestatic 150, 3) := by decide +kernel
theorem dJ7_copyOf_6403c_38 : decode cJ7_copyOf_6403c 38 = .ok (.aload_n 3, 1) := by decide +kernel
theorem dJ7_copyOf_6403c_39 : decode cJ7_copyOf_6403c 39 = .ok (.areturn, 1) := by decide +kernel
set_option maxRecDepth 20000 in
theorem ggJ15_checkIndex_7cf53_J3_checkIndex_8e157 : GoodIn wsJ15_checkIndex_7cf53 wsJ3_checkIndex_8e157 := goodIn_r _ [4] (by decide +kernel) (by decide +kernel)
set_option maxRecDepth 20000 in
theorem gJ15_checkIndex_7cf53_J3_checkIndex_8e157 : GoodIn wsJ15_checkIndex_7cf53 (va_wsS RJ15 105 yJ3_checkIndex_8e157 wsJ3_checkIndex_8e157) := goodIn_app (goodIn_of _ (by decide +kernel)) ggJ15_checkIndex_7cf53_J3_checkIndex_8e157
theorem dJ15_checkIndex_7cf53_0 : decode cJ15_checkIndex_7cf53 0 = .ok (.iload_n 0, 1) := by decide +kernel
theorem dJ15_checkIndex_7cf53_1 : decode cJ15_checkIndex_7cf53 1 = .ok (.iload_n 1, 1) := by decide +kernel
theorem dJ15_checkIndex_7cf53_2 : decode cJ15_checkIndex_7cf53 2 = .ok (.aconst_null, 1) := by decide +kernel
theorem dJ15_checkIndex_7cf53_3 : decode cJ15_checkIndex_7cf53 3 = .ok (.invokestatic 105, 3) := by decide +kernel
theorem dJ15_checkIndex_7cf53_6 : decode cJ15_checkIndex_7cf53 6 = .ok (.ireturn, 1) := by decide +kernel
set_option maxRecDepth 20000 in
theorem ggJ8_newLength_cabcc_J8_hugeLength_7cf53 : GoodIn wsJ8_newLength_cabcc wsJ8_hugeLength_7cf53 := goodIn_r _ [9, 5] (by decide +kernel) (by decide +kernel)
set_option maxRecDepth 20000 in
theorem gJ8_newLength_cabcc_J8_hugeLength_7cf53 : GoodIn wsJ8_newLength_cabcc (va_wsS RJ8 201 yJ8_hugeLength_7cf53 wsJ8_hugeLength_7cf53) := goodIn_app (goodIn_of _ (by decide +kernel)) ggJ8_newLength_cabcc_J8_hugeLength_7cf53
theorem dJ8_newLength_cabcc_0 : decode cJ8_newLength_cabcc 0 = .ok (.iload_n 0, 1) := by decide +kernel
theorem dJ8_newLength_cabcc_1 : decode cJ8_newLength_cabcc 1 = .ok (.iload_n 1, 1) := by decide +kernel
theorem dJ8_newLength_cabcc_2 : decode cJ8_newLength_cabcc 2 = .ok (.iload_n 2, 1) := by decide +kernel
theorem dJ8_newLength_cabcc_3 : decode cJ8_newLength_cabcc 3 = .ok (.invokestatic 194, 3) := by decide +kernel
theorem dJ8_newLength_cabcc_6 : decode cJ8_newLength_cabcc 6 = .ok (.iadd, 1) := by decide +kernel
theorem dJ8_newLength_cabcc_7 : decode cJ8_newLength_cabcc 7 = .ok (.istore_n 3, 1) := by decide +kernel
theorem dJ8_newLength_cabcc_8 : decode cJ8_newLength_cabcc 8 = .ok (.iconst 0, 1) := by decide +kernel
theorem dJ8_newLength_cabcc_9 : decode cJ8_newLength_cabcc 9 = .ok (.iload_n 3, 1) := by decide +kernel
theorem dJ8_newLength_cabcc_10 : decode cJ8_newLength_cabcc 10 = .ok (.if_icmp .ge 11, 3) := by decide +kernel
theorem dJ8_newLength_cabcc_13 : decode cJ8_newLength_cabcc 13 = .ok (.iload_n 3, 1) := by decide +kernel
theorem dJ8_newLength_cabcc_14 : decode cJ8_newLength_cabcc 14 = .ok (.ldc 200, 2) := by decide +kernel
theorem dJ8_newLength_cabcc_16 : decode cJ8_newLength_cabcc 16 = .ok (.if_icmp .gt 5, 3) := by decide +kernel
theorem dJ8_newLength_cabcc_19 : decode cJ8_newLength_cabcc 19 = .ok (.iload_n 3, 1) := by decide +kernel
theorem dJ8_newLength_cabcc_20 : decode cJ8_newLength_cabcc 20 = .ok (.ireturn, 1) := by decide +kernel
theorem dJ8_newLength_cabcc_21 : decode cJ8_newLength_cabcc 21 = .ok (.iload_n 0, 1) := by decide +kernel
theorem dJ8_newLength_cabcc_22 : decode cJ8_newLength_cabcc 22 = .ok (.iload_n 1, 1) := by decide +kernel
theorem dJ8_newLength_cabcc_23 : decode cJ8_newLength_cabcc 23 = .ok (.invokestatic 201, 3) := by decide +kernel
theorem dJ8_newLength_cabcc_26 : decode cJ8_newLength_cabcc 26 = .ok (.ireturn, 1) := by decide +kernel
theorem dJ8_hugeLength_7cf53_0 : decode cJ8_hugeLength_7cf53 0 = .ok (.iload_n 0, 1) := by decide +kernel
theorem dJ8_hugeLength_7cf53_1 : decode cJ8_hugeLength_7cf53 1 = .ok (.iload_n 1, 1) := by decide +kernel
theorem dJ8_hugeLength_7cf53_2 : decode cJ8_hugeLength_7cf53 2 = .ok (.iadd, 1) := by decide +kernel
theorem dJ8_hugeLength_7cf53_3 : decode cJ8_hugeLength_7cf53 3 = .ok (.istore_n 2, 1) := by decide +kernel
theorem dJ8_hugeLength_7cf53_4 : decode cJ8_hugeLength_7cf53 4 = .ok (.iload_n 2, 1) := by decide +kernel
theorem dJ8_hugeLength_7cf53_5 : decode cJ8_hugeLength_7cf53 5 = .ok (.ifCond .ge 44, 3) := by decide +kernel
theorem dJ8_hugeLength_7cf53_8 : decode cJ8_hugeLength_7cf53 8 = .ok (.new 204, 3) := by decide +kernel
theorem dJ8_hugeLength_7cf53_11 : decode cJ8_hugeLength_7cf53 11 = .ok (.dup, 1) := by decide +kernel
theorem dJ8_hugeLength_7cf53_12 : decode cJ8_hugeLength_7cf53 12 = .ok (.new 89, 3) := by decide +kernel
theorem dJ8_hugeLength_7cf53_15 : decode cJ8_hugeLength_7cf53 15 = .ok (.dup, 1) := by decide +kernel
theorem dJ8_hugeLength_7cf53_16 : decode cJ8_hugeLength_7cf53 16 = .ok (.invokespecial 91, 3) := by decide +kernel
theorem dJ8_hugeLength_7cf53_19 : decode cJ8_hugeLength_7cf53 19 = .ok (.ldc 206, 2) := by decide +kernel
theorem dJ8_hugeLength_7cf53_21 : decode cJ8_hugeLength_7cf53 21 = .ok (.invokevirtual 94, 3) := by decide +kernel
theorem dJ8_hugeLength_7cf53_24 : decode cJ8_hugeLength_7cf53 24 = .ok (.iload_n 0, 1) := by decide +kernel
theorem dJ8_hugeLength_7cf53_25 : decode cJ8_hugeLength_7cf53 25 = .ok (.invokevirtual 98, 3) := by decide +kernel
theorem dJ8_hugeLength_7cf53_28 : decode cJ8_hugeLength_7cf53 28 = .ok (.ldc 208, 2) := by decide +kernel
theorem dJ8_hugeLength_7cf53_30 : decode cJ8_hugeLength_7cf53 30 = .ok (.invokevirtual 94, 3) := by decide +kernel
theorem dJ8_hugeLength_7cf53_33 : decode cJ8_hugeLength_7cf53 33 = .ok (.iload_n 1, 1) := by decide +kernel
theorem dJ8_hugeLength_7cf53_34 : decode cJ8_hugeLength_7cf53 34 = .ok (.invokevirtual 98, 3) := by decide +kernel
theorem dJ8_hugeLength_7cf53_37 : decode cJ8_hugeLength_7cf53 37 = .ok (.ldc 210, 2) := by decide +kernel
theorem dJ8_hugeLength_7cf53_39 : decode cJ8_hugeLength_7cf53 39 = .ok (.invokevirtual 94, 3) := by decide +kernel
theorem dJ8_hugeLength_7cf53_42 : decode cJ8_hugeLength_7cf53 42 = .ok (.invokevirtual 101, 3) := by decide +kernel
theorem dJ8_hugeLength_7cf53_45 : decode cJ8_hugeLength_7cf53 45 = .ok (.invokespecial 212, 3) := by decide +kernel
theorem dJ8_hugeLength_7cf53_48 : decode cJ8_hugeLength_7cf53 48 = .ok (.athrow, 1) := by decide +kernel
theorem dJ8_hugeLength_7cf53_49 : decode cJ8_hugeLength_7cf53 49 = .ok (.iload_n 2, 1) := by decide +kernel
theorem dJ8_hugeLength_7cf53_50 : decode cJ8_hugeLength_7cf53 50 = .ok (.ldc 200, 2) := by decide +kernel
theorem dJ8_hugeLength_7cf53_52 : decode cJ8_hugeLength_7cf53 52 = .ok (.if_icmp .gt 6, 3) := by decide +kernel
theorem dJ8_hugeLength_7cf53_55 : decode cJ8_hugeLength_7cf53 55 = .ok (.ldc 200, 2) := by decide +kernel
theorem dJ8_hugeLength_7cf53_57 : decode cJ8_hugeLength_7cf53 57 = .ok (.ireturn, 1) := by decide +kernel
theorem dJ8_hugeLength_7cf53_58 : decode cJ8_hugeLength_7cf53 58 = .ok (.iload_n 2, 1) := by decide +kernel
theorem dJ8_hugeLength_7cf53_59 : decode cJ8_hugeLength_7cf53 59 = .ok (.ireturn, 1) := by decide +kernel
theorem dJ3_checkIndex_8e157_0 : decode cJ3_checkIndex_8e157 0 = .ok (.iload_n 0, 1) := by decide +kernel
theorem dJ3_checkIndex_8e157_1 : decode cJ3_checkIndex_8e157 1 = .ok (.ifCond .lt 8, 3) := by decide +kernel
theorem dJ3_checkIndex_8e157_4 : decode cJ3_checkIndex_8e157 4 = .ok (.iload_n 0, 1) := by decide +kernel
theorem dJ3_checkIndex_8e157_5 : decode cJ3_checkIndex_8e157 5 = .ok (.iload_n 1, 1) := by decide +kernel
theorem dJ3_checkIndex_8e157_6 : decode cJ3_checkIndex_8e157 6 = .ok (.if_icmp .lt 10, 3) := by decide +kernel
theorem dJ3_checkIndex_8e157_9 : decode cJ3_checkIndex_8e157 9 = .ok (.aload_n 2, 1) := by decide +kernel
theorem dJ3_checkIndex_8e157_10 : decode cJ3_checkIndex_8e157 10 = .ok (.iload_n 0, 1) := by decide +kernel
theorem dJ3_checkIndex_8e157_11 : decode cJ3_checkIndex_8e157 11 = .ok (.iload_n 1, 1) := by decide +kernel
theorem dJ3_checkIndex_8e157_12 : decode cJ3_checkIndex_8e157 12 = .ok (.invokestatic 95, 3) := by decide +kernel
theorem dJ3_checkIndex_8e157_15 : decode cJ3_checkIndex_8e157 15 = .ok (.athrow, 1) := by decide +kernel
theorem dJ3_checkIndex_8e157_16 : decode cJ3_checkIndex_8e157 16 = .ok (.iload_n 0, 1) := by decide +kernel
theorem dJ3_checkIndex_8e157_17 : decode cJ3_checkIndex_8e157 17 = .ok (.ireturn, 1) := by decide +kernel
end
section
/-! java.util.ArrayList: what a list's cells are -/
abbrev lC (mc : Int32) (e : Nat) (n : Int32) : va_E := .inr (0, [.int mc, .ref e, .int n])
abbrev rowE (κ : Kx) (cap : Nat) (g : Nat → Option Nat) : va_E := .inl (kO κ, cap, .inr (.inr (.inr (.inr g))))
/-- an object that a list may hold -/
def isEl (e : va_E) : Prop := ∃ (ci : Nat) (fs : List Value) (q : vw_C), e = .inr (ci, fs) ∧ vwCl[ci]? = some q ∧ (q.1, "java/lang/Object") ∈ kCa
theorem isEl_n0 {fs : List Value} (h : isEl (.inr (0, fs))) : False := by
  obtain ⟨ci, fs', q, e, hc, hk⟩ := h
  cases e
  have e1 : q = (RJx4a65c, TJx4a65c, 3) := (Option.some.inj hc).symm
  subst e1
  revert hk
  decide +kernel
theorem isEl_nr {x : ClassId × vp_A} (h : isEl (.inl x)) : False := by
  obtain ⟨ci, fs', q, e, -⟩ := h
  cases e
/-- an array of objects, of which some may be null -/
def RO (κ : Kx) (L : List Nat) (f : Nat → va_E) (e cap : Nat) (g : Nat → Option Nat) : Prop := e ∈ L ∧ f e = rowE κ cap g ∧ (10 ≤ cap ∧ cap ≤ 1000) ∧ ∀ i y, i < cap → g i = some y → y ∈ L ∧ isEl (f y)
theorem RO.up {κ : Kx} {L : List Nat} {f : Nat → va_E} {e cap : Nat} {g : Nat → Option Nat} (h : RO κ L f e cap g) {a : Nat} {e2 : va_E} (ha : a ≠ e) (hE : isEl (f a) → isEl e2) : RO κ L (va_up f a e2) e cap g := by
  obtain ⟨h1, h2, h3, h4⟩ := h
  refine ⟨h1, by rw [show va_up f a e2 e = f e by simp [va_up, ha.symm]]; exact h2, h3, fun i y hi hy => ⟨(h4 i y hi hy).1, ?_⟩⟩
  by_cases hya : y = a
  · subst hya
    rw [show va_up f y e2 y = e2 by simp [va_up]]
    exact hE (h4 i y hi hy).2
  · rw [show va_up f a e2 y = f y by simp [va_up, hya]]
    exact (h4 i y hi hy).2
theorem RO.push {κ : Kx} {L : List Nat} {f : Nat → va_E} {e cap : Nat} {g : Nat → Option Nat} (h : RO κ L f e cap g) {q : Nat} {e2 : va_E} (hq : q ∉ L) : RO κ (L ++ [q]) (va_up f q e2) e cap g := by
  obtain ⟨h1, h2, h3, h4⟩ := h
  have n : ∀ y, y ∈ L → y ≠ q := fun y hy e => hq (e ▸ hy)
  refine ⟨List.mem_append_left _ h1, by rw [show va_up f q e2 e = f e by simp [va_up, n e h1]]; exact h2, h3, fun i y hi hy => ?_⟩
  obtain ⟨h5, h6⟩ := h4 i y hi hy
  exact ⟨List.mem_append_left _ h5, by rw [show va_up f q e2 y = f y by simp [va_up, n y h5]]; exact h6⟩
/-- the list at lo, its row at e, holds el 0 .. el (n-1) -/
def LA (κ : Kx) (L : List Nat) (f : Nat → va_E) (lo e n : Nat) (el : Nat → Nat) : Prop := (lo ∈ L ∧ ∃ mc : Int32, f lo = lC mc e (nI n)) ∧ ((e = kTE κ ∧ n = 0) ∨ ∃ (cap : Nat) (g : Nat → Option Nat), RO κ L f e cap g ∧ n ≤ cap ∧ ∀ i, i < n → g i = some (el i))
/-- one more at its end -/
def AddP (κ : Kx) (L : List Nat) (f : Nat → va_E) (lo e n : Nat) (el : Nat → Nat) (v : Nat) (L1 : List Nat) (f1 : Nat → va_E) : Prop := ∃ e1, LA κ L1 f1 lo e1 (n + 1) (va_up el n v) ∧ (∀ q, q ∈ L → q ∈ L1) ∧ (∀ q, q ∈ L → q ≠ lo → q ≠ e → f1 q = f q) ∧ (e1 = e ∨ (e1 ∉ L ∧ e1 ∈ L1))
theorem HH.teL {κ : Kx} {L : List Nat} {f : Nat → va_E} {s : State} {H : Heap} {locs : List Loc} (h : HH κ L f s H locs) : kTE κ ∉ L := fun hm => by
  obtain ⟨k, -, hk⟩ := h.pos hm (rfl : f (kTE κ) = f (kTE κ))
  have h1 : kA κ (kTE κ) := h.2.2.1.2 k _ hk
  obtain ⟨cell, -, -, -, -, -, -, h2⟩ := h.2.2.2.2.2.2.1.2
  exact h2 h1
section LROWS
variable {p : Program} {l : Launch} {e : Env} {R : Room} {s : State} {m : MethodId} {args : Array Value} {below : List Frame} {meth : Method} {c : Code} {H : Heap} {locs : List Loc} {cells slots : Nat} {Q : State → Prop}
variable {κ : Kx} {L : List Nat} {f : Nat → va_E} {cc : ByteArray} {pc : Nat} {ls : Array Slot} {rest : List Value} {a : Nat} {Ts : List Cond} {own : String}
theorem h_aaldk (hx : p.tables.exec = Jvm.exec) (hb : c.code = cc) (hh : HH κ L f s H locs) {n k v : Nat} {g : Nat → Option Nat} (ha : a ∈ L) (hf : f a = rowE κ n g) {i : Int32} (hi : i = nI k) (hk : k < n) (hn : n < 2 ^ 31) (hv : g k = some v) (hdg : decode cc pc = .ok (.aaload, 1))
    (kk : W p l e R s m args below meth c H locs cells slots Q (F0 m (pc + 1) ls (.ref v :: rest))) : W p l e R s m args below meth c H locs cells slots Q (F0 m pc ls (.int i :: .ref a :: rest)) := by
  subst hi
  have e1 : (nI k).toNatClampNeg = k := nI_clamp (Nat.lt_trans hk hn)
  exact h_aald hx hb hh ha hf (vp_in_nI hk hn) hdg (by rw [e1, hv]; exact kk)
theorem h_aastk (hx : p.tables.exec = Jvm.exec) (hb : c.code = cc) (hh : HH κ L f s H locs) {n k v : Nat} {g : Nat → Option Nat} (ha : a ∈ L) (hf : f a = rowE κ n g) (hv : v ∈ L) (hE : isEl (f v)) {i : Int32} (hi : i = nI k) (hk : k < n) (hn : n < 2 ^ 31) (hdg : decode cc pc = .ok (.aastore, 1))
    (kk : ∀ (H1 : Heap) (locs1 : List Loc), HH κ L (va_up f a (rowE κ n (va_up g k (some v)))) s H1 locs1 → W p l e R s m args below meth c H1 locs1 cells slots Q (F0 m (pc + 1) ls rest)) : W p l e R s m args below meth c H locs cells slots Q (F0 m pc ls (.ref v :: .int i :: .ref a :: rest)) := by
  subst hi
  have e1 : (nI k).toNatClampNeg = k := nI_clamp (Nat.lt_trans hk hn)
  obtain ⟨ci, fs, q, hfv, hc, hk9⟩ := hE
  exact h_aast hx hb hh ha hf hv hfv hc hk9 (vp_in_nI hk hn) hdg (fun H1 locs1 h1 => by rw [e1] at h1; exact kk H1 locs1 h1)
theorem h_aastNk (hx : p.tables.exec = Jvm.exec) (hb : c.code = cc) (hh : HH κ L f s H locs) {n k : Nat} {g : Nat → Option Nat} (ha : a ∈ L) (hf : f a = rowE κ n g) {i : Int32} (hi : i = nI k) (hk : k < n) (hn : n < 2 ^ 31) (hdg : decode cc pc = .ok (.aastore, 1))
    (kk : ∀ (H1 : Heap) (locs1 : List Loc), HH κ L (va_up f a (rowE κ n (va_up g k none))) s H1 locs1 → W p l e R s m args below meth c H1 locs1 cells slots Q (F0 m (pc + 1) ls rest)) : W p l e R s m args below meth c H locs cells slots Q (F0 m pc ls (.null :: .int i :: .ref a :: rest)) := by
  subst hi
  have e1 : (nI k).toNatClampNeg = k := nI_clamp (Nat.lt_trans hk hn)
  exact h_aastN hx hb hh ha hf (vp_in_nI hk hn) hdg (fun H1 locs1 h1 => by rw [e1] at h1; exact kk H1 locs1 h1)
theorem HH.any (hh : HH κ L f s H locs) {y : Nat} (hy : y ∈ L) (hE : isEl (f y)) : va_Any "java/lang/Object" s H y := by
  obtain ⟨ci, fs, q, hfy, hc, hk⟩ := hE
  obtain ⟨k0, -, he⟩ := hh.pos hy hfy
  refine va_rAny hh.1 hh.2.1 he hc (fun comp c0 h1 h2 => ?_)
  obtain ⟨c3, c4, hc3, hc4, hasg⟩ := Cond.castable_spec (hh.2.2.2.2.2.2.2.2.2.2 _ hk)
  cases Option.some.inj (hc3.symm.trans h2)
  cases Option.some.inj (hc4.symm.trans h1)
  exact hasg
/-- System.arraycopy between rows of objects -/
theorem h_copy (hx : p.tables.exec = Jvm.exec) (hb : c.code = cc) (hml : c.maxLocals = ls.size) (hown : s.vm.findClass own = some m.cls) (hts : ∀ w ∈ Ts, w.before args s = true) {index : Nat} (hlink : Cond.methodLink own index arraycopyName ∈ Ts) (hnat : Cond.native arraycopyName ∈ Ts) (hstat : Cond.static arraycopyName ∈ Ts) (hini : Cond.initialized "java/lang/System" ∈ Ts)
    (hh : HH κ L f s H locs) {a0 n0 n1 : Nat} {g0 g1 : Nat → Option Nat} (ha0 : a0 ∈ L) (hf0 : f a0 = rowE κ n0 g0) (ha : a ∈ L) (hf1 : f a = rowE κ n1 g1) {sp dp n : Int32} (i j k : Nat) (hsp : sp = nI i) (hdp : dp = nI j) (hn : n = nI k) (h4 : i + k ≤ n0) (h5 : j + k ≤ n1) (hlt : n0 < 2 ^ 30 ∧ n1 < 2 ^ 30) (hel : ∀ t y, t < k → g0 (i + t) = some y → y ∈ L ∧ isEl (f y))
    (hframes : 1 ≤ R.frames) (hlocals : (rest.map fun v => v.category).sum + (nativeFrameWords "java/lang/System" "arraycopy" 5 + 11) ≤ R.locals) (hdg : decode cc pc = .ok (.invokestatic index, 3))
    (kk : ∀ (H1 : Heap) (locs1 : List Loc), HH κ L (va_up f a (rowE κ n1 (va_cpy g0 g1 i j k))) s H1 locs1 → W p l e R s m args below meth c H1 locs1 cells slots Q (F0 m (pc + 3) ls rest)) : W p l e R s m args below meth c H locs cells slots Q (F0 m pc ls (.int n :: .int dp :: .ref a :: .int sp :: .ref a0 :: rest)) := by
  subst hsp; subst hdp; subst hn
  have ei : (nI i).toNatClampNeg = i := nI_clamp (by omega)
  have ej : (nI j).toNatClampNeg = j := nI_clamp (by omega)
  have ek : (nI k).toNatClampNeg = k := nI_clamp (by omega)
  obtain ⟨q0, -, he0⟩ := hh.pos ha0 hf0
  obtain ⟨q1, h01, he1⟩ := hh.pos ha hf1
  refine va_copyM hx hb hml hown (hts _ hlink) (hts _ hnat) (hts _ hstat) (hts _ hini) hh.1 hh.2.1 hh.2.2.1 hh.2.2.2.1 q0 q1 1 1 he0 he1 rfl rfl (nI_pos (by omega)) (nI_pos (by omega)) (nI_pos (by omega)) (by rw [ei, ek]; exact h4) (by rw [ej, ek]; exact h5) (fun t ht y hy => ?_) hframes hlocals hdg (fun H1 locs1 hP hD hS => ?_)
  · rw [ek] at ht
    rw [ei] at hy
    obtain ⟨h1, h2⟩ := hel t y ht hy
    exact hh.any h1 h2
  · rw [ei, ej, ek] at hP hD
    exact kk H1 locs1 (hh.set ha h01 hP hD hS)
end LROWS
end
section
set_option maxRecDepth 100000 in
set_option maxHeartbeats 4000000 in
theorem c_chk3 {l : Launch} {κ : Kx} {L : List Nat} {f : Nat → va_E} {x y : Int32} (h0 : ¬ x < 0) (h1 : x < y) : PM l κ yJ3_checkIndex_8e157 wsJ3_checkIndex_8e157 ({ frames := 0, cells := 0, slots := 0, locals := 0 } : Room) [.int x, .int y, .null] L f (fun v L1 f1 => v = some (.int x) ∧ L = L1 ∧ f = f1) noX 0 0 := by
  refine PM.mk (cc := cJ3_checkIndex_8e157) (maxL := 3) (ret := (some .int)) (by decide) rfl (Nat.le_of_ble_eq_true rfl) ?_
  intro p e s m args below meth c ls hx hb hml hr hlk hnm hown hts ht hh hl
  have hl : lv_has ls 3 [(0, .int x), (1, .int y), (2, .null)] := hl
  have S : CallFix p m c cJ3_checkIndex_8e157 3 s args wsJ3_checkIndex_8e157 RJ3 := ⟨hx, hb, hml, hown, hts⟩
  refine lv_iload_n hx hb dJ3_checkIndex_8e157_0 rfl (lv_at hl 0 rfl) ?_
  refine lv_if_lt (tgt := 9) hx hb dJ3_checkIndex_8e157_1 (by decide) (fun c1 => ?_) (fun c1 => ?_)
  · exact absurd c1 h0
  · refine lv_iload_n hx hb dJ3_checkIndex_8e157_4 rfl (lv_at hl 0 rfl) ?_
    refine lv_iload_n hx hb dJ3_checkIndex_8e157_5 rfl (lv_at hl 1 rfl) ?_
    refine lv_icmp_lt (tgt := 16) hx hb dJ3_checkIndex_8e157_6 (by decide) (fun c6 => ?_) (fun c6 => ?_)
    · refine lv_iload_n hx hb dJ3_checkIndex_8e157_16 rfl (lv_at hl 0 rfl) ?_
      exact k_iret hx hb hr hlk hh dJ3_checkIndex_8e157_17 (Nat.le_of_ble_eq_true rfl) (Nat.le_of_ble_eq_true rfl) ⟨rfl, rfl, rfl⟩
    · exact absurd h1 c6

set_option maxRecDepth 100000 in
set_option maxHeartbeats 4000000 in
theorem c_chk15 {l : Launch} {κ : Kx} {L : List Nat} {f : Nat → va_E} {x y : Int32} (h0 : ¬ x < 0) (h1 : x < y) : PM l κ yJ15_checkIndex_7cf53 wsJ15_checkIndex_7cf53 ({ frames := 1, cells := 0, slots := 0, locals := 22 } : Room) [.int x, .int y] L f (fun v L1 f1 => v = some (.int x) ∧ L = L1 ∧ f = f1) noX 0 0 := by
  refine PM.mk (cc := cJ15_checkIndex_7cf53) (maxL := 2) (ret := (some .int)) (by decide) rfl (Nat.le_of_ble_eq_true rfl) ?_
  intro p e s m args below meth c ls hx hb hml hr hlk hnm hown hts ht hh hl
  have hl : lv_has ls 2 [(0, .int x), (1, .int y)] := hl
  have S : CallFix p m c cJ15_checkIndex_7cf53 2 s args wsJ15_checkIndex_7cf53 RJ15 := ⟨hx, hb, hml, hown, hts⟩
  refine lv_iload_n hx hb dJ15_checkIndex_7cf53_0 rfl (lv_at hl 0 rfl) ?_
  refine lv_iload_n hx hb dJ15_checkIndex_7cf53_1 rfl (lv_at hl 1 rfl) ?_
  refine lv_null hx hb dJ15_checkIndex_7cf53_2 ?_
  refine k_callS0 (As := [.int x, .int y, .null]) (c_chk3 h0 h1) S hh (va_cwS 3 hts gJ15_checkIndex_7cf53_J3_checkIndex_8e157 rfl rfl rfl (by decide +kernel) ⟨(Nat.le_of_ble_eq_true rfl), (Nat.le_of_ble_eq_true rfl)⟩) rfl hl.1 rfl (Nat.le_of_ble_eq_true rfl) dJ15_checkIndex_7cf53_3 ⟨(Nat.le_of_ble_eq_true rfl), (Nat.le_of_ble_eq_true rfl)⟩ (fun v L1 f1 H locs hp hh => ?_)
  obtain ⟨rfl, hL1, hf1⟩ := hp
  subst hL1; subst hf1
  exact k_iret hx hb hr hlk hh dJ15_checkIndex_7cf53_6 (Nat.le_of_ble_eq_true rfl) (Nat.le_of_ble_eq_true rfl) ⟨rfl, rfl, rfl⟩

set_option maxRecDepth 100000 in
set_option maxHeartbeats 4000000 in
theorem c_size {l : Launch} {κ : Kx} {L : List Nat} {f : Nat → va_E} {ℓ e : Nat} {mc n : Int32} (hL : ℓ ∈ L) (hF : f ℓ = lC mc e n) : PM l κ yJx4a65c_size_8abf5 wsJx4a65c_size_8abf5 ({ frames := 0, cells := 0, slots := 0, locals := 0 } : Room) [.ref ℓ] L f (fun v L1 f1 => v = some (.int n) ∧ L = L1 ∧ f = f1) noX 0 0 := by
  refine PM.mk (cc := cJx4a65c_size_8abf5) (maxL := 1) (ret := (some .int)) (by decide) rfl (Nat.le_of_ble_eq_true rfl) ?_
  intro p e s m args below meth c ls hx hb hml hr hlk hnm hown hts ht hh hl
  have hl : lv_has ls 1 [(0, .ref ℓ)] := hl
  have S : CallFix p m c cJx4a65c_size_8abf5 1 s args wsJx4a65c_size_8abf5 RJx4a65c := ⟨hx, hb, hml, hown, hts⟩
  have hin : ∀ w ∈ wsJx4a65c0, w ∈ wsJx4a65c_size_8abf5 := by decide +kernel
  refine lv_aload_n hx hb dJx4a65c_size_8abf5_0 rfl (lv_at hl 0 rfl) ?_
  refine h_get hx hb hts hown hh (C := RJx4a65c) (T := TJx4a65c) (N := 3) hL hF rfl hin 2 (by decide) (hts (.fieldLink RJx4a65c 48 "java/util/ArrayList" "size" "I") (by decide +kernel)) (fun _ h9 => h9) rfl dJx4a65c_size_8abf5_1 ?_
  exact k_iret hx hb hr hlk hh dJx4a65c_size_8abf5_4 (Nat.le_of_ble_eq_true rfl) (Nat.le_of_ble_eq_true rfl) ⟨rfl, rfl, rfl⟩

set_option maxRecDepth 100000 in
set_option maxHeartbeats 4000000 in
theorem c_isEmpty {l : Launch} {κ : Kx} {L : List Nat} {f : Nat → va_E} {ℓ e : Nat} {mc n : Int32} (hL : ℓ ∈ L) (hF : f ℓ = lC mc e n) : PM l κ yJx4a65c_isEmpty_aae02 wsJx4a65c_isEmpty_aae02 ({ frames := 0, cells := 0, slots := 0, locals := 0 } : Room) [.ref ℓ] L f (fun v L1 f1 => v = some (.int (if n = 0 then 1 else 0)) ∧ L = L1 ∧ f = f1) noX 0 0 := by
  refine PM.mk (cc := cJx4a65c_isEmpty_aae02) (maxL := 1) (ret := (some .boolean)) (by decide) rfl (Nat.le_of_ble_eq_true rfl) ?_
  intro p e s m args below meth c ls hx hb hml hr hlk hnm hown hts ht hh hl
  have hl : lv_has ls 1 [(0, .ref ℓ)] := hl
  have S : CallFix p m c cJx4a65c_isEmpty_aae02 1 s args wsJx4a65c_isEmpty_aae02 RJx4a65c := ⟨hx, hb, hml, hown, hts⟩
  have hin : ∀ w ∈ wsJx4a65c0, w ∈ wsJx4a65c_isEmpty_aae02 := by decide +kernel
  refine lv_aload_n hx hb dJx4a65c_isEmpty_aae02_0 rfl (lv_at hl 0 rfl) ?_
  refine h_get hx hb hts hown hh (C := RJx4a65c) (T := TJx4a65c) (N := 3) hL hF rfl hin 2 (by decide) (hts (.fieldLink RJx4a65c 48 "java/util/ArrayList" "size" "I") (by decide +kernel)) (fun _ h9 => h9) rfl dJx4a65c_isEmpty_aae02_1 ?_
  refine lv_if_ne (tgt := 11) hx hb dJx4a65c_isEmpty_aae02_4 (by decide) (fun c4 => ?_) (fun c4 => ?_)
  · refine lv_iconst (v := 0) hx hb dJx4a65c_isEmpty_aae02_11 (by decide) ?_
    exact k_zret hx hb hr hlk (rfl) hh dJx4a65c_isEmpty_aae02_12 (Nat.le_of_ble_eq_true rfl) (Nat.le_of_ble_eq_true rfl) ⟨congrArg (fun r => some (Value.int r)) (by first | rw [if_pos (by assumption)] | rw [if_neg (by assumption)]), rfl, rfl⟩
  · refine lv_iconst (v := 1) hx hb dJx4a65c_isEmpty_aae02_7 (by decide) ?_
    refine lv_goto (tgt := 12) hx hb dJx4a65c_isEmpty_aae02_8 (by decide) ?_
    exact k_zret hx hb hr hlk (rfl) hh dJx4a65c_isEmpty_aae02_12 (Nat.le_of_ble_eq_true rfl) (Nat.le_of_ble_eq_true rfl) ⟨congrArg (fun r => some (Value.int r)) (by first | rw [if_pos (by assumption)] | rw [if_neg (by assumption)]), rfl, rfl⟩

set_option maxRecDepth 100000 in
set_option maxHeartbeats 4000000 in
theorem c_elem {l : Launch} {κ : Kx} {L : List Nat} {f : Nat → va_E} {ℓ e : Nat} {mc n : Int32} (hL : ℓ ∈ L) (hF : f ℓ = lC mc e n) {cap : Nat} {g : Nat → Option Nat} (hE : e ∈ L) (hR : f e = rowE κ cap g) {k w : Nat} {x : Int32} (hx9 : x = nI k) (hk : k < cap) (hc9 : cap ≤ 1000) (hw : g k = some w) : PM l κ yJx4a65c_elementData_915e3 wsJx4a65c_elementData_915e3 ({ frames := 0, cells := 0, slots := 0, locals := 0 } : Room) [.ref ℓ, .int x] L f (fun v L1 f1 => v = some (.ref w) ∧ L = L1 ∧ f = f1) noX 0 0 := by
  refine PM.mk (cc := cJx4a65c_elementData_915e3) (maxL := 2) (ret := (some (.object "java/lang/Object"))) (by decide) rfl (Nat.le_of_ble_eq_true rfl) ?_
  intro p e s m args below meth c ls hx hb hml hr hlk hnm hown hts ht hh hl
  have hl : lv_has ls 2 [(0, .ref ℓ), (1, .int x)] := hl
  have S : CallFix p m c cJx4a65c_elementData_915e3 2 s args wsJx4a65c_elementData_915e3 RJx4a65c := ⟨hx, hb, hml, hown, hts⟩
  have hin : ∀ w ∈ wsJx4a65c0, w ∈ wsJx4a65c_elementData_915e3 := by decide +kernel
  refine lv_aload_n hx hb dJx4a65c_elementData_915e3_0 rfl (lv_at hl 0 rfl) ?_
  refine h_get hx hb hts hown hh (C := RJx4a65c) (T := TJx4a65c) (N := 3) hL hF rfl hin 1 (by decide) (hts (.fieldLink RJx4a65c 9 "java/util/ArrayList" "elementData" "[Ljava/lang/Object;") (by decide +kernel)) (fun _ h9 => h9) rfl dJx4a65c_elementData_915e3_1 ?_
  refine lv_iload_n hx hb dJx4a65c_elementData_915e3_4 rfl (lv_at hl 1 rfl) ?_
  refine h_aaldk hx hb hh hE hR hx9 hk (by omega) hw dJx4a65c_elementData_915e3_5 ?_
  exact k_aret hx hb hr (Or.inl ⟨_, rfl⟩) hlk hh dJx4a65c_elementData_915e3_6 (Nat.le_of_ble_eq_true rfl) (Nat.le_of_ble_eq_true rfl) ⟨rfl, rfl, rfl⟩

set_option maxRecDepth 100000 in
set_option maxHeartbeats 4000000 in
theorem c_get {l : Launch} {κ : Kx} {L : List Nat} {f : Nat → va_E} {ℓ e : Nat} {mc : Int32} {n : Nat} (hL : ℓ ∈ L) (hF : f ℓ = lC mc e (nI n)) {cap : Nat} {g : Nat → Option Nat} (hE : e ∈ L) (hR : f e = rowE κ cap g) {k w : Nat} {x : Int32} (hx9 : x = nI k) (hk : k < cap) (hc9 : cap ≤ 1000) (hw : g k = some w) (hkn : k < n) (hn : n ≤ cap) : PM l κ yJx4a65c_get_915e3 wsJx4a65c_get_915e3 ({ frames := 2, cells := 0, slots := 0, locals := 43 } : Room) [.ref ℓ, .int x] L f (fun v L1 f1 => v = some (.ref w) ∧ L = L1 ∧ f = f1) noX 0 0 := by
  refine PM.mk (cc := cJx4a65c_get_915e3) (maxL := 2) (ret := (some (.object "java/lang/Object"))) (by decide) rfl (Nat.le_of_ble_eq_true rfl) ?_
  intro p e s m args below meth c ls hx hb hml hr hlk hnm hown hts ht hh hl
  have hl : lv_has ls 2 [(0, .ref ℓ), (1, .int x)] := hl
  have S : CallFix p m c cJx4a65c_get_915e3 2 s args wsJx4a65c_get_915e3 RJx4a65c := ⟨hx, hb, hml, hown, hts⟩
  have hin : ∀ w ∈ wsJx4a65c0, w ∈ wsJx4a65c_get_915e3 := by decide +kernel
  have h0 : ¬ x < 0 := by rw [hx9]; exact nI_pos (by omega)
  have h1 : x < nI n := by rw [hx9]; exact nI_lt hkn (by omega)
  refine lv_iload_n hx hb dJx4a65c_get_915e3_0 rfl (lv_at hl 1 rfl) ?_
  refine lv_aload_n hx hb dJx4a65c_get_915e3_1 rfl (lv_at hl 0 rfl) ?_
  refine h_get hx hb hts hown hh (C := RJx4a65c) (T := TJx4a65c) (N := 3) hL hF rfl hin 2 (by decide) (hts (.fieldLink RJx4a65c 48 "java/util/ArrayList" "size" "I") (by decide +kernel)) (fun _ h9 => h9) rfl dJx4a65c_get_915e3_2 ?_
  refine k_callS0 (As := [.int x, .int (nI n)]) (c_chk15 h0 h1) S hh (va_cwS 2 hts gJx4a65c_get_915e3_J15_checkIndex_7cf53 rfl rfl rfl (by decide +kernel) ⟨(Nat.le_of_ble_eq_true rfl), (Nat.le_of_ble_eq_true rfl)⟩) rfl hl.1 rfl (Nat.le_of_ble_eq_true rfl) dJx4a65c_get_915e3_5 ⟨(Nat.le_of_ble_eq_true rfl), (Nat.le_of_ble_eq_true rfl)⟩ (fun v L1 f1 H locs hp hh => ?_)
  obtain ⟨rfl, hL1, hf1⟩ := hp
  subst hL1; subst hf1
  refine lv_pop hx hb dJx4a65c_get_915e3_8 rfl ?_
  refine lv_aload_n hx hb dJx4a65c_get_915e3_9 rfl (lv_at hl 0 rfl) ?_
  refine lv_iload_n hx hb dJx4a65c_get_915e3_10 rfl (lv_at hl 1 rfl) ?_
  refine k_callV0 (As := [.int x]) (c_elem hL hF hE hR hx9 hk hc9 hw) S hh (cwV 1 hts gJx4a65c_get_915e3_Jx4a65c_elementData_915e3 rfl rfl rfl (by decide +kernel) ⟨(Nat.le_of_ble_eq_true rfl), (Nat.le_of_ble_eq_true rfl)⟩) hL hF (q := (RJx4a65c, TJx4a65c, 3)) rfl rfl rfl hl.1 rfl (Nat.le_of_ble_eq_true rfl) dJx4a65c_get_915e3_11 ⟨(Nat.le_of_ble_eq_true rfl), (Nat.le_of_ble_eq_true rfl)⟩ (fun v L1 f1 H locs hp hh => ?_)
  obtain ⟨rfl, hL1, hf1⟩ := hp
  subst hL1; subst hf1
  exact k_aret hx hb hr (Or.inl ⟨_, rfl⟩) hlk hh dJx4a65c_get_915e3_14 (Nat.le_of_ble_eq_true rfl) (Nat.le_of_ble_eq_true rfl) ⟨rfl, rfl, rfl⟩

set_option maxRecDepth 100000 in
set_option maxHeartbeats 4000000 in
theorem c_newLen {l : Launch} {κ : Kx} {L : List Nat} {f : Nat → va_E} {a0 b0 c0 : Nat} {x y z : Int32} (hx0 : x = nI a0) (hy0 : y = nI b0) (hz0 : z = nI c0) (hb0 : 0 < b0) (hab : a0 + b0 ≤ 2000) (hac : a0 + c0 ≤ 2000) : PM l κ yJ8_newLength_cabcc wsJ8_newLength_cabcc ({ frames := 1, cells := 0, slots := 0, locals := 14 } : Room) [.int x, .int y, .int z] L f (fun v L1 f1 => v = some (.int (nI (a0 + max b0 c0))) ∧ L = L1 ∧ f = f1) noX 0 0 := by
  refine PM.mk (cc := cJ8_newLength_cabcc) (maxL := 4) (ret := (some .int)) (by decide) rfl (Nat.le_of_ble_eq_true rfl) ?_
  intro p e s m args below meth c ls hx hb hml hr hlk hnm hown hts ht hh hl
  have hl : lv_has ls 4 [(0, .int x), (1, .int y), (2, .int z)] := hl
  have S : CallFix p m c cJ8_newLength_cabcc 4 s args wsJ8_newLength_cabcc RJ8 := ⟨hx, hb, hml, hown, hts⟩
  have hmb : a0 + max b0 c0 ≤ 2000 := by omega
  refine lv_iload_n hx hb dJ8_newLength_cabcc_0 rfl (lv_at hl 0 rfl) ?_
  refine lv_iload_n hx hb dJ8_newLength_cabcc_1 rfl (lv_at hl 1 rfl) ?_
  refine lv_iload_n hx hb dJ8_newLength_cabcc_2 rfl (lv_at hl 2 rfl) ?_
  refine va_mmax hx hb (hml.trans hl.1.symm) hown (hts (.methodLink RJ8 194 Lib.Math.max.name) (by decide +kernel)) (hts (.static Lib.Math.max.name) (by decide +kernel)) (hts (.initialized "java/lang/Math") (by decide +kernel)) (hts (.code Lib.Math.max.name Lib.Math.max.code 2 (some .int)) (by decide +kernel)) (Nat.le_of_ble_eq_true rfl) (Nat.le_of_ble_eq_true rfl) (Nat.le_of_ble_eq_true rfl) (Nat.le_of_ble_eq_true rfl) dJ8_newLength_cabcc_3 ?_
  refine lv_iadd hx hb dJ8_newLength_cabcc_6 ?_
  refine lv_topi (fun x7 e7 => ?_)
  refine lv_istore_n (lv' := [(3, .int x7), (0, .int x), (1, .int y), (2, .int z)]) hx hb dJ8_newLength_cabcc_7 rfl hl (by decide) rfl (fun ls hl => ?_)
  subst hx0; subst hy0; subst hz0
  have e7b : x7 = nI (a0 + max b0 c0) := by
    rw [e7]
    by_cases q : nI b0 < nI c0
    · rw [if_pos q, nI_add, Nat.max_eq_right (Nat.le_of_lt ((nI_ltI (by omega) (by omega)).mp q))]
    · rw [if_neg q, nI_add, Nat.max_eq_left (Nat.le_of_not_lt (fun q2 => q ((nI_ltI (by omega) (by omega)).mpr q2)))]
  refine lv_iconst (v := 0) hx hb dJ8_newLength_cabcc_8 (by decide) ?_
  refine lv_iload_n hx hb dJ8_newLength_cabcc_9 rfl (lv_at hl 0 rfl) ?_
  refine lv_icmp_ge (tgt := 21) hx hb dJ8_newLength_cabcc_10 (by decide) (fun c10 => ?_) (fun c10 => ?_)
  · exact absurd (e7b ▸ c10) (nI_nle (by omega) (by omega))
  · refine lv_iload_n hx hb dJ8_newLength_cabcc_13 rfl (lv_at hl 0 rfl) ?_
    refine lv_ldc hx hb hown (v := 2147483639) (hts (.constant RJ8 200 2147483639) (by decide +kernel)) dJ8_newLength_cabcc_14 ?_
    refine lv_icmp_gt (tgt := 21) hx hb dJ8_newLength_cabcc_16 (by decide) (fun c16 => ?_) (fun c16 => ?_)
    · rw [e7b, Int32.lt_iff_toInt_lt, nI_toInt (by omega)] at c16
      have e0 : (2147483639 : Int32).toInt = 2147483639 := rfl
      omega
    · refine lv_iload_n hx hb dJ8_newLength_cabcc_19 rfl (lv_at hl 0 rfl) ?_
      subst e7
      exact k_iret hx hb hr hlk hh dJ8_newLength_cabcc_20 (Nat.le_of_ble_eq_true rfl) (Nat.le_of_ble_eq_true rfl) ⟨congrArg (fun r => some (Value.int r)) e7b, rfl, rfl⟩
end
section
section RC
variable {p : Program} {l : Launch} {e : Env} {s : State} {H : Heap} {locs : List Loc} {κ : Kx} {L : List Nat} {f : Nat → va_E}
theorem HH.rowCls (hh : HH κ L f s H locs) {a n : Nat} {g : Nat → Option Nat} (ha : a ∈ L) (hf : f a = rowE κ n g) : ∃ cell : Cell, H[a]? = some cell ∧ cell.vm.isStatics = false ∧ s.vm.findClass "[Ljava/lang/Object;" = some cell.cls := by
  obtain ⟨q0, -, he⟩ := hh.pos ha hf
  have h1 : H[a]? = some (arrV (kO κ) n (fun j => va_rf (g j))) := hh.2.1 q0 _ he
  obtain ⟨k2, c2, -, -, -, e2⟩ := (hh.1.2 1 (kO κ, .object "java/lang/Object") rfl).2
  exact ⟨_, h1, rfl, e2⟩
end RC

set_option maxRecDepth 100000 in
set_option maxHeartbeats 4000000 in
theorem c_copy3 {l : Launch} {κ : Kx} {L : List Nat} {f : Nat → va_E} {ea cap m9 : Nat} {g : Nat → Option Nat} {x : Int32} (hR : RO κ L f ea cap g) (hx9 : x = nI m9) (hm9 : cap ≤ m9) (hm15 : m9 ≤ 1500) : PM l κ yJ7_copyOf_6403c wsJ7_copyOf_6403c ({ frames := 1, cells := 1, slots := 1500, locals := 20 } : Room) [.ref ea, .int x, .ref (kMI κ)] L f (fun v L1 f1 => ∃ q, q ∉ L ∧ v = some (.ref q) ∧ L1 = L ++ [q] ∧ f1 q = rowE κ m9 (va_cpy g (fun _ => none) 0 0 cap) ∧ ∀ y, y ≠ q → f1 y = f y) noX 1 1500 := by
  refine PM.mk (cc := cJ7_copyOf_6403c) (maxL := 4) (ret := (some (.array (.object "java/lang/Object")))) (by decide) rfl (Nat.le_of_ble_eq_true rfl) ?_
  intro p e s m args below meth c ls hx hb hml hr hlk hnm hown hts ht hh hl
  have hl : lv_has ls 4 [(0, .ref ea), (1, .int x), (2, .ref (kMI κ))] := hl
  have S : CallFix p m c cJ7_copyOf_6403c 4 s args wsJ7_copyOf_6403c RJ7 := ⟨hx, hb, hml, hown, hts⟩
  refine lv_aload_n hx hb dJ7_copyOf_6403c_0 rfl (lv_at hl 2 rfl) ?_
  refine va_ldcM hx hb hown (hts (.classLink RJ7 110 "[Ljava/lang/Object;") (by decide +kernel)) hh.2.2.2.2.2.2.2.1.1 dJ7_copyOf_6403c_1 ?_
  refine lv_acmp_ne (rx := some (kMI κ)) (ry := some (kMI κ)) (tgt := 13) hx hb dJ7_copyOf_6403c_3 (by decide) (fun c => absurd rfl c) (fun _ => ?_)
  refine lv_iload_n hx hb dJ7_copyOf_6403c_6 rfl (lv_at hl 1 rfl) ?_
  refine h_newq hx hb hown hh (hts (.classLink RJ7 2 "java/lang/Object") (by decide +kernel)) (N' := m9) (by rw [hx9]; exact nI_pos (by omega)) (by rw [hx9]; exact nI_clamp (by omega)) (by omega) (Nat.le_of_ble_eq_true rfl) (by show 0 + m9 ≤ 1500; omega) dJ7_copyOf_6403c_7 (fun q H hq hh => ?_)
  refine W.widen (k := 1) (n := 1500) (by omega) (by omega) ?_
  have heq : ea ≠ q := fun z => hq (z ▸ hR.1)
  have hEq : ea ∈ L ++ [q] := List.mem_append_left _ hR.1
  have hRq : va_up f q (rowE κ m9 (fun _ => none)) ea = rowE κ cap g := by rw [← hR.2.1]; simp [va_up, heq]
  have hQq : va_up f q (rowE κ m9 (fun _ => none)) q = rowE κ m9 (fun _ => none) := by simp [va_up]
  refine lv_goto (tgt := 24) hx hb dJ7_copyOf_6403c_10 (by decide) ?_
  refine lv_astore_n (lv' := [(3, .ref q), (0, .ref ea), (1, .int x), (2, .ref (kMI κ))]) hx hb dJ7_copyOf_6403c_24 rfl hl (by decide) rfl (fun ls hl => ?_)
  refine lv_aload_n hx hb dJ7_copyOf_6403c_25 rfl (lv_at hl 1 rfl) ?_
  refine lv_iconst (v := 0) hx hb dJ7_copyOf_6403c_26 (by decide) ?_
  refine lv_aload_n hx hb dJ7_copyOf_6403c_27 rfl (lv_at hl 0 rfl) ?_
  refine lv_iconst (v := 0) hx hb dJ7_copyOf_6403c_28 (by decide) ?_
  refine lv_aload_n hx hb dJ7_copyOf_6403c_29 rfl (lv_at hl 1 rfl) ?_
  refine h_alen hx hb hh hEq hRq dJ7_copyOf_6403c_30 ?_
  refine lv_iload_n hx hb dJ7_copyOf_6403c_31 rfl (lv_at hl 2 rfl) ?_
  refine va_mmin hx hb (hml.trans hl.1.symm) hown (hts (.methodLink RJ7 304 Lib.Math.min.name) (by decide +kernel)) (hts (.static Lib.Math.min.name) (by decide +kernel)) (hts (.initialized "java/lang/Math") (by decide +kernel)) (hts (.code Lib.Math.min.name Lib.Math.min.code 2 (some .int)) (by decide +kernel)) (Nat.le_of_ble_eq_true rfl) (Nat.le_of_ble_eq_true rfl) (Nat.le_of_ble_eq_true rfl) (Nat.le_of_ble_eq_true rfl) dJ7_copyOf_6403c_32 ?_
  refine h_copy hx hb (hml.trans hl.1.symm) hown hts (by decide +kernel) (by decide +kernel) (by decide +kernel) (by decide +kernel) hh hEq hRq (List.mem_append_right _ List.mem_cons_self) hQq 0 0 cap rfl rfl (by rw [hx9]; by_cases z : nI m9 < nI cap <;> simp only [z, if_true, if_false]; exact absurd z (nI_nlt hm9 (by omega))) (by omega) (by omega) ⟨by have := hR.2.2.1.2; omega, by omega⟩ (fun t y ht hy => (hR.push hq).2.2.2 t y ht (by rw [Nat.zero_add] at hy; exact hy)) (Nat.le_of_ble_eq_true rfl) (Nat.le_of_ble_eq_true rfl) dJ7_copyOf_6403c_35 (fun H locs hh => ?_)
  refine lv_aload_n hx hb dJ7_copyOf_6403c_38 rfl (lv_at hl 0 rfl) ?_
  exact k_aret hx hb hr (Or.inr ⟨_, rfl⟩) hlk hh dJ7_copyOf_6403c_39 (Nat.le_of_ble_eq_true rfl) (Nat.le_of_ble_eq_true rfl) ⟨q, hq, rfl, rfl, by simp [va_up], fun y hy => by simp [va_up, hy]⟩

set_option maxRecDepth 100000 in
set_option maxHeartbeats 4000000 in
theorem c_copy2 {l : Launch} {κ : Kx} {L : List Nat} {f : Nat → va_E} {ea cap m9 : Nat} {g : Nat → Option Nat} {x : Int32} (hR : RO κ L f ea cap g) (hx9 : x = nI m9) (hm9 : cap ≤ m9) (hm15 : m9 ≤ 1500) : PM l κ yJ7_copyOf_1904c wsJ7_copyOf_1904c ({ frames := 2, cells := 1, slots := 1500, locals := 43 } : Room) [.ref ea, .int x] L f (fun v L1 f1 => ∃ q, q ∉ L ∧ v = some (.ref q) ∧ L1 = L ++ [q] ∧ f1 q = rowE κ m9 (va_cpy g (fun _ => none) 0 0 cap) ∧ ∀ y, y ≠ q → f1 y = f y) noX 1 1500 := by
  refine PM.mk (cc := cJ7_copyOf_1904c) (maxL := 2) (ret := (some (.array (.object "java/lang/Object")))) (by decide) rfl (Nat.le_of_ble_eq_true rfl) ?_
  intro p e s m args below meth c ls hx hb hml hr hlk hnm hown hts ht hh hl
  have hl : lv_has ls 2 [(0, .ref ea), (1, .int x)] := hl
  have S : CallFix p m c cJ7_copyOf_1904c 2 s args wsJ7_copyOf_1904c RJ7 := ⟨hx, hb, hml, hown, hts⟩
  refine lv_aload_n hx hb dJ7_copyOf_1904c_0 rfl (lv_at hl 0 rfl) ?_
  refine lv_iload_n hx hb dJ7_copyOf_1904c_1 rfl (lv_at hl 1 rfl) ?_
  refine lv_aload_n hx hb dJ7_copyOf_1904c_2 rfl (lv_at hl 0 rfl) ?_
  refine va_getC hx hb (hml.trans hl.1.symm) hown (C := "[Ljava/lang/Object;") (hts (.methodLink RJ7 86 ⟨"java/lang/Object", "getClass", "()Ljava/lang/Class;"⟩) (by decide +kernel)) (va_Dc.use hh.2.2.2.2.2.2.2.1.2.1) (hts (.selects "[Ljava/lang/Object;" ⟨"java/lang/Object", "getClass", "()Ljava/lang/Class;"⟩ ⟨"java/lang/Object", "getClass", "()Ljava/lang/Class;"⟩) (by decide +kernel)) (hts (.instanceMethod ⟨"java/lang/Object", "getClass", "()Ljava/lang/Class;"⟩) (by decide +kernel)) (hts (.native ⟨"java/lang/Object", "getClass", "()Ljava/lang/Class;"⟩) (by decide +kernel)) hh.2.2.2.2.2.2.2.1.1 (hh.rowCls hR.1 hR.2.1) (Nat.le_of_ble_eq_true rfl) (Nat.le_of_ble_eq_true rfl) dJ7_copyOf_1904c_3 ?_
  refine k_callS0 (As := [.ref ea, .int x, .ref (kMI κ)]) (c_copy3 hR hx9 hm9 hm15) S hh (va_cwS 3 hts gJ7_copyOf_1904c_J7_copyOf_6403c rfl rfl rfl (by decide +kernel) ⟨(Nat.le_of_ble_eq_true rfl), (Nat.le_of_ble_eq_true rfl)⟩) rfl hl.1 rfl (Nat.le_of_ble_eq_true rfl) dJ7_copyOf_1904c_6 ⟨(Nat.le_of_ble_eq_true rfl), (Nat.le_of_ble_eq_true rfl)⟩ (fun v L1 f1 H locs hp hh => ?_)
  obtain ⟨q, hq, rfl, rfl, hq1, hq2⟩ := hp
  exact k_aret hx hb hr (Or.inr ⟨_, rfl⟩) hlk hh dJ7_copyOf_1904c_9 (Nat.le_of_ble_eq_true rfl) (Nat.le_of_ble_eq_true rfl) ⟨q, hq, rfl, rfl, hq1, hq2⟩

set_option maxRecDepth 100000 in
set_option maxHeartbeats 4000000 in
theorem c_growE {l : Launch} {κ : Kx} {L : List Nat} {f : Nat → va_E} {ℓ : Nat} {mc : Int32} {n : Nat} {x : Int32} (hL : ℓ ∈ L) (hF : f ℓ = lC mc (kTE κ) (nI n)) (hx9 : x = nI 1) : PM l κ yJx4a65c_grow_92f84 wsJx4a65c_grow_92f84 ({ frames := 3, cells := 1, slots := 1500, locals := 90 } : Room) [.ref ℓ, .int x] L f (fun v L1 f1 => ∃ q, q ∉ L ∧ v = some (.ref q) ∧ L1 = L ++ [q] ∧ f1 q = rowE κ 10 (fun _ => none) ∧ f1 ℓ = lC mc q (nI n) ∧ ∀ y, y ≠ q → y ≠ ℓ → f1 y = f y) noX 1 1500 := by
  refine PM.mk (cc := cJx4a65c_grow_92f84) (maxL := 4) (ret := (some (.array (.object "java/lang/Object")))) (by decide) rfl (Nat.le_of_ble_eq_true rfl) ?_
  intro p e s m args below meth c ls hx hb hml hr hlk hnm hown hts ht hh hl
  have hl : lv_has ls 4 [(0, .ref ℓ), (1, .int x)] := hl
  have S : CallFix p m c cJx4a65c_grow_92f84 4 s args wsJx4a65c_grow_92f84 RJx4a65c := ⟨hx, hb, hml, hown, hts⟩
  have hin : ∀ w ∈ wsJx4a65c0, w ∈ wsJx4a65c_grow_92f84 := by decide +kernel
  refine lv_aload_n hx hb dJx4a65c_grow_92f84_0 rfl (lv_at hl 0 rfl) ?_
  refine h_get hx hb hts hown hh (C := RJx4a65c) (T := TJx4a65c) (N := 3) hL hF rfl hin 1 (by decide) (hts (.fieldLink RJx4a65c 9 "java/util/ArrayList" "elementData" "[Ljava/lang/Object;") (by decide +kernel)) (fun _ h9 => h9) rfl dJx4a65c_grow_92f84_1 ?_
  refine h_alenE hx hb hh dJx4a65c_grow_92f84_4 ?_
  refine lv_istore_n (lv' := [(2, .int 0), (0, .ref ℓ), (1, .int x)]) hx hb dJx4a65c_grow_92f84_5 rfl hl (by decide) rfl (fun ls hl => ?_)
  refine lv_iload_n hx hb dJx4a65c_grow_92f84_6 rfl (lv_at hl 0 rfl) ?_
  refine lv_if_gt (tgt := 20) hx hb dJx4a65c_grow_92f84_7 (by decide) (fun c7 => ?_) (fun c7 => ?_)
  · exact absurd c7 (by decide)
  · refine lv_aload_n hx hb dJx4a65c_grow_92f84_10 rfl (lv_at hl 1 rfl) ?_
    refine h_get hx hb hts hown hh (C := RJx4a65c) (T := TJx4a65c) (N := 3) hL hF rfl hin 1 (by decide) (hts (.fieldLink RJx4a65c 9 "java/util/ArrayList" "elementData" "[Ljava/lang/Object;") (by decide +kernel)) (fun _ h9 => h9) rfl dJx4a65c_grow_92f84_11 ?_
    refine va_gets hx hb hh.2.2.2.2.2.2.1.1 hh.2.2.2.1 hown (hts (.fieldLink RJx4a65c 39 "java/util/ArrayList" "DEFAULTCAPACITY_EMPTY_ELEMENTDATA" "[Ljava/lang/Object;") (by decide +kernel)) (fun _ h9 => h9) dJx4a65c_grow_92f84_14 ?_
    refine lv_acmp_eq (rx := some (kTE κ)) (ry := some (kTE κ)) (tgt := 45) hx hb dJx4a65c_grow_92f84_17 (by decide) (fun _ => ?_) (fun c => absurd rfl c)
    refine lv_aload_n hx hb dJx4a65c_grow_92f84_45 rfl (lv_at hl 1 rfl) ?_
    refine lv_bipush (v := 10) hx hb dJx4a65c_grow_92f84_46 (by decide) ?_
    refine lv_iload_n hx hb dJx4a65c_grow_92f84_48 rfl (lv_at hl 2 rfl) ?_
    refine va_mmax hx hb (hml.trans hl.1.symm) hown (hts (.methodLink RJx4a65c 79 Lib.Math.max.name) (by decide +kernel)) (hts (.static Lib.Math.max.name) (by decide +kernel)) (hts (.initialized "java/lang/Math") (by decide +kernel)) (hts (.code Lib.Math.max.name Lib.Math.max.code 2 (some .int)) (by decide +kernel)) (Nat.le_of_ble_eq_true rfl) (Nat.le_of_ble_eq_true rfl) (Nat.le_of_ble_eq_true rfl) (Nat.le_of_ble_eq_true rfl) dJx4a65c_grow_92f84_49 ?_
    refine h_newq hx hb hown hh (hts (.classLink RJx4a65c 7 "java/lang/Object") (by decide +kernel)) (N' := 10) (by rw [hx9]; decide) (by rw [hx9]; decide) (by omega) (Nat.le_of_ble_eq_true rfl) (Nat.le_of_ble_eq_true rfl) dJx4a65c_grow_92f84_52 (fun q H hq hh => ?_)
    have hlq : ℓ ≠ q := fun z => hq (z ▸ hL)
    have hFq : va_up f q (rowE κ 10 (fun _ => none)) ℓ = lC mc (kTE κ) (nI n) := by rw [← hF]; simp [va_up, hlq]
    refine lv_dup_x1 hx hb dJx4a65c_grow_92f84_55 rfl rfl ?_
    refine h_put hx hb hts hown hh (C := RJx4a65c) (T := TJx4a65c) (N := 3) (List.mem_append_left _ hL) hFq rfl hin tyJx4a65c tyJx4a65c_ok nmJx4a65c 1 (by decide) (hts (.fieldLink RJx4a65c 9 "java/util/ArrayList" "elementData" "[Ljava/lang/Object;") (by decide +kernel)) (fun _ h9 => h9) rfl (ty := .array (.object "java/lang/Object")) rfl rfl rfl (by simp) dJx4a65c_grow_92f84_56 (fun H locs hh => ?_)
    exact k_aret hx hb hr (Or.inr ⟨_, rfl⟩) hlk hh dJx4a65c_grow_92f84_59 (Nat.le_of_ble_eq_true rfl) (Nat.le_of_ble_eq_true rfl) ⟨q, hq, rfl, rfl, by simp [va_up, hlq.symm], by simp [va_up], fun y hy hy2 => by simp [va_up, hy, hy2]⟩

set_option maxRecDepth 100000 in
set_option maxHeartbeats 4000000 in
theorem c_growR {l : Launch} {κ : Kx} {L : List Nat} {f : Nat → va_E} {ℓ ea cap : Nat} {g : Nat → Option Nat} {mc : Int32} {n : Nat} {x : Int32} (hL : ℓ ∈ L) (hF : f ℓ = lC mc ea (nI n)) (hR : RO κ L f ea cap g) (hx9 : x = nI (cap + 1)) (hc9 : cap ≤ 600) : PM l κ yJx4a65c_grow_92f84 wsJx4a65c_grow_92f84 ({ frames := 3, cells := 1, slots := 1500, locals := 90 } : Room) [.ref ℓ, .int x] L f (fun v L1 f1 => ∃ q, q ∉ L ∧ v = some (.ref q) ∧ L1 = L ++ [q] ∧ f1 q = rowE κ (cap + max 1 (cap / 2)) (va_cpy g (fun _ => none) 0 0 cap) ∧ f1 ℓ = lC mc q (nI n) ∧ ∀ y, y ≠ q → y ≠ ℓ → f1 y = f y) noX 1 1500 := by
  refine PM.mk (cc := cJx4a65c_grow_92f84) (maxL := 4) (ret := (some (.array (.object "java/lang/Object")))) (by decide) rfl (Nat.le_of_ble_eq_true rfl) ?_
  intro p e s m args below meth c ls hx hb hml hr hlk hnm hown hts ht hh hl
  have hl : lv_has ls 4 [(0, .ref ℓ), (1, .int x)] := hl
  have S : CallFix p m c cJx4a65c_grow_92f84 4 s args wsJx4a65c_grow_92f84 RJx4a65c := ⟨hx, hb, hml, hown, hts⟩
  have hin : ∀ w ∈ wsJx4a65c0, w ∈ wsJx4a65c_grow_92f84 := by decide +kernel
  refine lv_aload_n hx hb dJx4a65c_grow_92f84_0 rfl (lv_at hl 0 rfl) ?_
  refine h_get hx hb hts hown hh (C := RJx4a65c) (T := TJx4a65c) (N := 3) hL hF rfl hin 1 (by decide) (hts (.fieldLink RJx4a65c 9 "java/util/ArrayList" "elementData" "[Ljava/lang/Object;") (by decide +kernel)) (fun _ h9 => h9) rfl dJx4a65c_grow_92f84_1 ?_
  refine h_alen hx hb hh hR.1 hR.2.1 dJx4a65c_grow_92f84_4 ?_
  refine lv_istore_n (lv' := [(2, .int (nI cap)), (0, .ref ℓ), (1, .int x)]) hx hb dJx4a65c_grow_92f84_5 rfl hl (by decide) rfl (fun ls hl => ?_)
  refine lv_iload_n hx hb dJx4a65c_grow_92f84_6 rfl (lv_at hl 0 rfl) ?_
  refine lv_if_gt (tgt := 20) hx hb dJx4a65c_grow_92f84_7 (by decide) (fun c7 => ?_) (fun c7 => ?_)
  · refine lv_iload_n hx hb dJx4a65c_grow_92f84_20 rfl (lv_at hl 0 rfl) ?_
    refine lv_iload_n hx hb dJx4a65c_grow_92f84_21 rfl (lv_at hl 2 rfl) ?_
    refine lv_iload_n hx hb dJx4a65c_grow_92f84_22 rfl (lv_at hl 0 rfl) ?_
    refine lv_isub hx hb dJx4a65c_grow_92f84_23 ?_
    refine lv_iload_n hx hb dJx4a65c_grow_92f84_24 rfl (lv_at hl 0 rfl) ?_
    refine lv_iconst (v := 1) hx hb dJx4a65c_grow_92f84_25 (by decide) ?_
    refine lv_ishr hx hb dJx4a65c_grow_92f84_26 ?_
    refine k_callS0 (As := [.int (nI cap), .int (x - (nI cap)), .int ((nI cap) >>> (1 &&& 31))]) (c_newLen (a0 := cap) (b0 := 1) (c0 := cap / 2) rfl (show x - nI cap = nI 1 by rw [hx9, pk_sub (by omega)]; congr 1; omega) (show nI cap >>> ((1 : Int32) &&& 31) = nI (cap / 2) from pk_shrN (by omega) _ 1 (by decide)) (by omega) (by omega) (by omega)) S hh (va_cwS 3 hts gJx4a65c_grow_92f84_J8_newLength_cabcc rfl rfl rfl (by decide +kernel) ⟨(Nat.le_of_ble_eq_true rfl), (Nat.le_of_ble_eq_true rfl)⟩) rfl hl.1 rfl (Nat.le_of_ble_eq_true rfl) dJx4a65c_grow_92f84_27 ⟨(Nat.le_of_ble_eq_true rfl), (Nat.le_of_ble_eq_true rfl)⟩ (fun v L1 f1 H locs hp hh => ?_)
    obtain ⟨rfl, hL1, hf1⟩ := hp
    subst hL1; subst hf1
    refine lv_topi (fun x30 e30 => ?_)
    refine lv_istore_n (lv' := [(3, .int x30), (2, .int (nI cap)), (0, .ref ℓ), (1, .int x)]) hx hb dJx4a65c_grow_92f84_30 rfl hl (by decide) rfl (fun ls hl => ?_)
    refine lv_aload_n hx hb dJx4a65c_grow_92f84_31 rfl (lv_at hl 2 rfl) ?_
    refine lv_aload_n hx hb dJx4a65c_grow_92f84_32 rfl (lv_at hl 2 rfl) ?_
    refine h_get hx hb hts hown hh (C := RJx4a65c) (T := TJx4a65c) (N := 3) hL hF rfl hin 1 (by decide) (hts (.fieldLink RJx4a65c 9 "java/util/ArrayList" "elementData" "[Ljava/lang/Object;") (by decide +kernel)) (fun _ h9 => h9) rfl dJx4a65c_grow_92f84_33 ?_
    refine lv_iload_n hx hb dJx4a65c_grow_92f84_36 rfl (lv_at hl 0 rfl) ?_
    refine k_callS0 (As := [.ref ea, .int x30]) (c_copy2 hR e30 (by omega) (by omega)) S hh (va_cwS 2 hts gJx4a65c_grow_92f84_J7_copyOf_1904c rfl rfl rfl (by decide +kernel) ⟨(Nat.le_of_ble_eq_true rfl), (Nat.le_of_ble_eq_true rfl)⟩) rfl hl.1 rfl (Nat.le_of_ble_eq_true rfl) dJx4a65c_grow_92f84_37 ⟨(Nat.le_of_ble_eq_true rfl), (Nat.le_of_ble_eq_true rfl)⟩ (fun v L1 f1 H locs hp hh => ?_)
    obtain ⟨q, hq, rfl, rfl, hq1, hq2⟩ := hp
    have hlq : ℓ ≠ q := fun z => hq (z ▸ hL)
    have hFq : f1 ℓ = lC mc ea (nI n) := by rw [← hF]; exact hq2 ℓ hlq
    refine lv_dup_x1 hx hb dJx4a65c_grow_92f84_40 rfl rfl ?_
    refine h_put hx hb hts hown hh (C := RJx4a65c) (T := TJx4a65c) (N := 3) (List.mem_append_left _ hL) hFq rfl hin tyJx4a65c tyJx4a65c_ok nmJx4a65c 1 (by decide) (hts (.fieldLink RJx4a65c 9 "java/util/ArrayList" "elementData" "[Ljava/lang/Object;") (by decide +kernel)) (fun _ h9 => h9) rfl (ty := .array (.object "java/lang/Object")) rfl rfl rfl (by simp) dJx4a65c_grow_92f84_41 (fun H locs hh => ?_)
    subst e30
    exact k_aret hx hb hr (Or.inr ⟨_, rfl⟩) hlk hh dJx4a65c_grow_92f84_44 (Nat.le_of_ble_eq_true rfl) (Nat.le_of_ble_eq_true rfl) ⟨q, hq, rfl, rfl, by simp [va_up, hlq.symm, hq1], by simp [va_up], fun y hy hy2 => by simp [va_up, hy2, hq2 y hy]⟩
  · exact absurd (nI_lt (a := 0) (b := cap) (by have := hR.2.2.1.1; omega) (by omega)) c7

set_option maxRecDepth 100000 in
set_option maxHeartbeats 4000000 in
theorem c_grow0E {l : Launch} {κ : Kx} {L : List Nat} {f : Nat → va_E} {n : Nat} {ℓ : Nat} {mc : Int32} (hL : ℓ ∈ L) (hF : f ℓ = lC mc (kTE κ) (nI n)) (hn0 : n = 0) : PM l κ yJx4a65c_grow_d5877 wsJx4a65c_grow_d5877 ({ frames := 4, cells := 1, slots := 1500, locals := 113 } : Room) [.ref ℓ] L f (fun v L1 f1 => ∃ q, q ∉ L ∧ v = some (.ref q) ∧ L1 = L ++ [q] ∧ f1 q = rowE κ 10 (fun _ => none) ∧ f1 ℓ = lC mc q (nI n) ∧ ∀ y, y ≠ q → y ≠ ℓ → f1 y = f y) noX 1 1500 := by
  refine PM.mk (cc := cJx4a65c_grow_d5877) (maxL := 1) (ret := (some (.array (.object "java/lang/Object")))) (by decide) rfl (Nat.le_of_ble_eq_true rfl) ?_
  intro p e s m args below meth c ls hx hb hml hr hlk hnm hown hts ht hh hl
  have hl : lv_has ls 1 [(0, .ref ℓ)] := hl
  have S : CallFix p m c cJx4a65c_grow_d5877 1 s args wsJx4a65c_grow_d5877 RJx4a65c := ⟨hx, hb, hml, hown, hts⟩
  have hin : ∀ w ∈ wsJx4a65c0, w ∈ wsJx4a65c_grow_d5877 := by decide +kernel
  refine lv_aload_n hx hb dJx4a65c_grow_d5877_0 rfl (lv_at hl 0 rfl) ?_
  refine lv_aload_n hx hb dJx4a65c_grow_d5877_1 rfl (lv_at hl 0 rfl) ?_
  refine h_get hx hb hts hown hh (C := RJx4a65c) (T := TJx4a65c) (N := 3) hL hF rfl hin 2 (by decide) (hts (.fieldLink RJx4a65c 48 "java/util/ArrayList" "size" "I") (by decide +kernel)) (fun _ h9 => h9) rfl dJx4a65c_grow_d5877_2 ?_
  refine lv_iconst (v := 1) hx hb dJx4a65c_grow_d5877_5 (by decide) ?_
  refine lv_iadd hx hb dJx4a65c_grow_d5877_6 ?_
  refine k_callV0 (As := [.int ((nI n) + 1)]) (c_growE hL hF (by rw [hn0]; rfl)) S hh (cwV 1 hts gJx4a65c_grow_d5877_Jx4a65c_grow_92f84 rfl rfl rfl (by decide +kernel) ⟨(Nat.le_of_ble_eq_true rfl), (Nat.le_of_ble_eq_true rfl)⟩) hL hF (q := (RJx4a65c, TJx4a65c, 3)) rfl rfl rfl hl.1 rfl (Nat.le_of_ble_eq_true rfl) dJx4a65c_grow_d5877_7 ⟨(Nat.le_of_ble_eq_true rfl), (Nat.le_of_ble_eq_true rfl)⟩ (fun v L1 f1 H locs hp hh => ?_)
  obtain ⟨q, hq, rfl, rfl, hq1, hq2, hq3⟩ := hp
  exact k_aret hx hb hr (Or.inr ⟨_, rfl⟩) hlk hh dJx4a65c_grow_d5877_10 (Nat.le_of_ble_eq_true rfl) (Nat.le_of_ble_eq_true rfl) ⟨q, hq, rfl, rfl, hq1, hq2, hq3⟩

set_option maxRecDepth 100000 in
set_option maxHeartbeats 4000000 in
theorem c_grow0R {l : Launch} {κ : Kx} {L : List Nat} {f : Nat → va_E} {n : Nat} {ℓ ea cap : Nat} {g : Nat → Option Nat} {mc : Int32} (hL : ℓ ∈ L) (hF : f ℓ = lC mc ea (nI n)) (hR : RO κ L f ea cap g) (hnc : n = cap) (hc9 : cap ≤ 600) : PM l κ yJx4a65c_grow_d5877 wsJx4a65c_grow_d5877 ({ frames := 4, cells := 1, slots := 1500, locals := 113 } : Room) [.ref ℓ] L f (fun v L1 f1 => ∃ q, q ∉ L ∧ v = some (.ref q) ∧ L1 = L ++ [q] ∧ f1 q = rowE κ (cap + max 1 (cap / 2)) (va_cpy g (fun _ => none) 0 0 cap) ∧ f1 ℓ = lC mc q (nI n) ∧ ∀ y, y ≠ q → y ≠ ℓ → f1 y = f y) noX 1 1500 := by
  refine PM.mk (cc := cJx4a65c_grow_d5877) (maxL := 1) (ret := (some (.array (.object "java/lang/Object")))) (by decide) rfl (Nat.le_of_ble_eq_true rfl) ?_
  intro p e s m args below meth c ls hx hb hml hr hlk hnm hown hts ht hh hl
  have hl : lv_has ls 1 [(0, .ref ℓ)] := hl
  have S : CallFix p m c cJx4a65c_grow_d5877 1 s args wsJx4a65c_grow_d5877 RJx4a65c := ⟨hx, hb, hml, hown, hts⟩
  have hin : ∀ w ∈ wsJx4a65c0, w ∈ wsJx4a65c_grow_d5877 := by decide +kernel
  refine lv_aload_n hx hb dJx4a65c_grow_d5877_0 rfl (lv_at hl 0 rfl) ?_
  refine lv_aload_n hx hb dJx4a65c_grow_d5877_1 rfl (lv_at hl 0 rfl) ?_
  refine h_get hx hb hts hown hh (C := RJx4a65c) (T := TJx4a65c) (N := 3) hL hF rfl hin 2 (by decide) (hts (.fieldLink RJx4a65c 48 "java/util/ArrayList" "size" "I") (by decide +kernel)) (fun _ h9 => h9) rfl dJx4a65c_grow_d5877_2 ?_
  refine lv_iconst (v := 1) hx hb dJx4a65c_grow_d5877_5 (by decide) ?_
  refine lv_iadd hx hb dJx4a65c_grow_d5877_6 ?_
  refine k_callV0 (As := [.int ((nI n) + 1)]) (c_growR hL hF hR (by rw [nI_1, hnc]) hc9) S hh (cwV 1 hts gJx4a65c_grow_d5877_Jx4a65c_grow_92f84 rfl rfl rfl (by decide +kernel) ⟨(Nat.le_of_ble_eq_true rfl), (Nat.le_of_ble_eq_true rfl)⟩) hL hF (q := (RJx4a65c, TJx4a65c, 3)) rfl rfl rfl hl.1 rfl (Nat.le_of_ble_eq_true rfl) dJx4a65c_grow_d5877_7 ⟨(Nat.le_of_ble_eq_true rfl), (Nat.le_of_ble_eq_true rfl)⟩ (fun v L1 f1 H locs hp hh => ?_)
  obtain ⟨q, hq, rfl, rfl, hq1, hq2, hq3⟩ := hp
  exact k_aret hx hb hr (Or.inr ⟨_, rfl⟩) hlk hh dJx4a65c_grow_d5877_10 (Nat.le_of_ble_eq_true rfl) (Nat.le_of_ble_eq_true rfl) ⟨q, hq, rfl, rfl, hq1, hq2, hq3⟩
end
section
theorem cpy_eq {g : Nat → Option Nat} {cap i : Nat} (hi : i < cap) : va_cpy g (fun _ => none) 0 0 cap i = g i := by simp [va_cpy, hi]
theorem cpy_el {g : Nat → Option Nat} {cap : Nat} {P : Nat → Prop} (h : ∀ i y, i < cap → g i = some y → P y) : ∀ i y, va_cpy g (fun _ => none) 0 0 cap i = some y → P y := by
  intro i y hy
  by_cases hi : i < cap
  · rw [cpy_eq hi] at hy
    exact h i y hi hy
  · rw [show va_cpy g (fun _ => none) 0 0 cap i = none by simp [va_cpy, hi]] at hy
    cases hy
theorem nEl {κ : Kx} {f : Nat → va_E} {lo w : Nat} {mc : Int32} {e : Nat} {n : Int32} (hF : f lo = lC mc e n) (hE : isEl (f w)) : w ≠ lo := fun z => by
  rw [z, hF] at hE
  exact isEl_n0 hE
theorem addP_grow {κ : Kx} {L : List Nat} {f f3 : Nat → va_E} {lo ea n w q cap2 : Nat} {mc : Int32} {el : Nat → Nat} {g2 : Nat → Option Nat} (hL : lo ∈ L) (hF : f lo = lC mc ea (nI n)) (hq : q ∉ L) (hw : w ∈ L) (hEw : isEl (f w)) (h1 : f3 lo = lC mc q (nI (n + 1))) (h2 : f3 q = rowE κ cap2 (va_up g2 n (some w))) (h3 : ∀ y, y ≠ q → y ≠ lo → f3 y = f y) (hc : 10 ≤ cap2 ∧ cap2 ≤ 1000) (hn : n < cap2) (hg : ∀ i, i < n → g2 i = some (el i)) (hg2 : ∀ i y, g2 i = some y → y ∈ L ∧ isEl (f y)) : AddP κ L f lo ea n el w (L ++ [q]) f3 := by
  refine ⟨q, ⟨⟨List.mem_append_left _ hL, mc, h1⟩, Or.inr ⟨cap2, va_up g2 n (some w), ⟨List.mem_append_right _ List.mem_cons_self, h2, hc, fun i y hi hy => ?_⟩, hn, fun i hi => ?_⟩⟩, fun y hy => List.mem_append_left _ hy, fun y hy hy2 _ => h3 y (fun z => hq (z ▸ hy)) hy2, Or.inr ⟨hq, List.mem_append_right _ List.mem_cons_self⟩⟩
  · have key : ∀ y, y ∈ L → isEl (f y) → y ∈ L ++ [q] ∧ isEl (f3 y) := fun y hy hE => ⟨List.mem_append_left _ hy, by rw [h3 y (fun z => hq (z ▸ hy)) (nEl (κ := κ) hF hE)]; exact hE⟩
    by_cases hin : i = n
    · rw [hin] at hy
      rw [show va_up g2 n (some w) n = some w by simp [va_up]] at hy
      cases hy
      exact key _ hw hEw
    · rw [show va_up g2 n (some w) i = g2 i by simp [va_up, hin]] at hy
      exact key y (hg2 i y hy).1 (hg2 i y hy).2
  · by_cases hin : i = n
    · subst hin; simp [va_up]
    · rw [show va_up g2 n (some w) i = g2 i by simp [va_up, hin], show va_up el n w i = el i by simp [va_up, hin]]
      exact hg i (by omega)
theorem addP_put {κ : Kx} {L : List Nat} {f f3 : Nat → va_E} {lo ea n w cap : Nat} {mc : Int32} {el : Nat → Nat} {g : Nat → Option Nat} (hL : lo ∈ L) (hF : f lo = lC mc ea (nI n)) (hR : RO κ L f ea cap g) (hw : w ∈ L) (hEw : isEl (f w)) (h1 : f3 lo = lC mc ea (nI (n + 1))) (h2 : f3 ea = rowE κ cap (va_up g n (some w))) (h3 : ∀ y, y ≠ ea → y ≠ lo → f3 y = f y) (hn : n < cap) (hg : ∀ i, i < n → g i = some (el i)) : AddP κ L f lo ea n el w L f3 := by
  have hnr : ∀ y, isEl (f y) → y ≠ ea := fun y hE z => by
    rw [z, hR.2.1] at hE
    exact isEl_nr hE
  refine ⟨ea, ⟨⟨hL, mc, h1⟩, Or.inr ⟨cap, va_up g n (some w), ⟨hR.1, h2, hR.2.2.1, fun i y hi hy => ?_⟩, hn, fun i hi => ?_⟩⟩, fun y hy => hy, fun y _ hy2 hy3 => h3 y hy3 hy2, Or.inl rfl⟩
  · have key : ∀ y, y ∈ L → isEl (f y) → y ∈ L ∧ isEl (f3 y) := fun y hy hE => ⟨hy, by rw [h3 y (hnr y hE) (nEl (κ := κ) hF hE)]; exact hE⟩
    by_cases hin : i = n
    · rw [hin] at hy
      rw [show va_up g n (some w) n = some w by simp [va_up]] at hy
      cases hy
      exact key _ hw hEw
    · rw [show va_up g n (some w) i = g i by simp [va_up, hin]] at hy
      exact key y (hR.2.2.2 i y hi hy).1 (hR.2.2.2 i y hi hy).2
  · by_cases hin : i = n
    · subst hin; simp [va_up]
    · rw [show va_up g n (some w) i = g i by simp [va_up, hin], show va_up el n w i = el i by simp [va_up, hin]]
      exact hg i (by omega)

set_option maxRecDepth 100000 in
set_option maxHeartbeats 4000000 in
theorem c_add3G {l : Launch} {κ : Kx} {L : List Nat} {f : Nat → va_E} {ℓ ea w n : Nat} {mc : Int32} {el : Nat → Nat} (hL : ℓ ∈ L) (hF : f ℓ = lC mc ea (nI n)) (hw : w ∈ L) (hEw : isEl (f w)) {cap : Nat} {g : Nat → Option Nat} (hR : RO κ L f ea cap g) (hnc : n = cap) (hc9 : cap ≤ 600) (hg : ∀ i, i < n → g i = some (el i)) : PM l κ yJx4a65c_add_72be8 wsJx4a65c_add_72be8 ({ frames := 5, cells := 1, slots := 1500, locals := 133 } : Room) [.ref ℓ, .ref w, .ref ea, .int (nI n)] L f (fun v L1 f1 => v = none ∧ AddP κ L f ℓ ea n el w L1 f1) noX 1 1500 := by
  refine PM.mk (cc := cJx4a65c_add_72be8) (maxL := 4) (ret := none) (by decide) rfl (Nat.le_of_ble_eq_true rfl) ?_
  intro p e s m args below meth c ls hx hb hml hr hlk hnm hown hts ht hh hl
  have hl : lv_has ls 4 [(0, .ref ℓ), (1, .ref w), (2, .ref ea), (3, .int (nI n))] := hl
  have S : CallFix p m c cJx4a65c_add_72be8 4 s args wsJx4a65c_add_72be8 RJx4a65c := ⟨hx, hb, hml, hown, hts⟩
  have hin : ∀ w ∈ wsJx4a65c0, w ∈ wsJx4a65c_add_72be8 := by decide +kernel
  refine lv_iload_n hx hb dJx4a65c_add_72be8_0 rfl (lv_at hl 3 rfl) ?_
  refine lv_aload_n hx hb dJx4a65c_add_72be8_1 rfl (lv_at hl 2 rfl) ?_
  refine h_alen hx hb hh hR.1 hR.2.1 dJx4a65c_add_72be8_2 ?_
  refine lv_icmp_ne (tgt := 11) hx hb dJx4a65c_add_72be8_3 (by decide) (fun c3 => ?_) (fun c3 => ?_)
  · exact absurd (by rw [hnc]) c3
  · refine lv_aload_n hx hb dJx4a65c_add_72be8_6 rfl (lv_at hl 0 rfl) ?_
    refine k_callV0 (As := []) (c_grow0R hL hF hR hnc hc9) S hh (cwV 0 hts gJx4a65c_add_72be8_Jx4a65c_grow_d5877 rfl rfl rfl (by decide +kernel) ⟨(Nat.le_of_ble_eq_true rfl), (Nat.le_of_ble_eq_true rfl)⟩) hL hF (q := (RJx4a65c, TJx4a65c, 3)) rfl rfl rfl hl.1 rfl (Nat.le_of_ble_eq_true rfl) dJx4a65c_add_72be8_7 ⟨(Nat.le_of_ble_eq_true rfl), (Nat.le_of_ble_eq_true rfl)⟩ (fun v L1 f1 H locs hp hh => ?_)
    obtain ⟨q, hq, rfl, rfl, hq1, hq2, hq3⟩ := hp
    have hwq : w ≠ q := fun z => hq (z ▸ hw)
    have hlq : ℓ ≠ q := fun z => hq (z ▸ hL)
    have hwl : w ≠ ℓ := nEl (κ := κ) hF hEw
    have hE1 : isEl (f1 w) := by rw [hq3 w hwq hwl]; exact hEw
    refine lv_astore_n (lv' := [(2, .ref q), (0, .ref ℓ), (1, .ref w), (3, .int (nI n))]) hx hb dJx4a65c_add_72be8_10 rfl hl (by decide) rfl (fun ls hl => ?_)
    refine lv_aload_n hx hb dJx4a65c_add_72be8_11 rfl (lv_at hl 0 rfl) ?_
    refine lv_iload_n hx hb dJx4a65c_add_72be8_12 rfl (lv_at hl 3 rfl) ?_
    refine lv_aload_n hx hb dJx4a65c_add_72be8_13 rfl (lv_at hl 2 rfl) ?_
    refine h_aastk hx hb hh (List.mem_append_right _ List.mem_cons_self) hq1 (List.mem_append_left _ hw) hE1 rfl (k := n) (by omega) (by omega) dJx4a65c_add_72be8_14 (fun H locs hh => ?_)
    have hF2 : va_up f1 q (rowE κ (cap + max 1 (cap / 2)) (va_up (va_cpy g (fun _ => none) 0 0 cap) n (some w))) ℓ = lC mc q (nI n) := by rw [← hq2]; simp [va_up, hlq]
    refine lv_aload_n hx hb dJx4a65c_add_72be8_15 rfl (lv_at hl 1 rfl) ?_
    refine lv_iload_n hx hb dJx4a65c_add_72be8_16 rfl (lv_at hl 3 rfl) ?_
    refine lv_iconst (v := 1) hx hb dJx4a65c_add_72be8_17 (by decide) ?_
    refine lv_iadd hx hb dJx4a65c_add_72be8_18 ?_
    refine h_put hx hb hts hown hh (C := RJx4a65c) (T := TJx4a65c) (N := 3) (List.mem_append_left _ hL) hF2 rfl hin tyJx4a65c tyJx4a65c_ok nmJx4a65c 2 (by decide) (hts (.fieldLink RJx4a65c 48 "java/util/ArrayList" "size" "I") (by decide +kernel)) (fun _ h9 => h9) rfl (ty := .int) rfl rfl rfl (by simp) dJx4a65c_add_72be8_19 (fun H locs hh => ?_)
    exact k_vret hx hb hr hlk hh dJx4a65c_add_72be8_22 (Nat.le_of_ble_eq_true rfl) (Nat.le_of_ble_eq_true rfl) ⟨rfl, addP_grow (cap2 := (cap + max 1 (cap / 2))) (g2 := (va_cpy g (fun _ => none) 0 0 cap)) hL hF hq hw hEw (by simp [va_up, nI_1]) (by simp [va_up, hlq.symm]) (fun y hy hy2 => by simp [va_up, hy, hy2, hq3 y hy hy2]) ⟨by have := hR.2.2.1.1; omega, by omega⟩ (by omega) (fun i hi => by rw [cpy_eq (by omega)]; exact hg i hi) (cpy_el (P := fun y => y ∈ L ∧ isEl (f y)) hR.2.2.2)⟩

set_option maxRecDepth 100000 in
set_option maxHeartbeats 4000000 in
theorem c_add3E {l : Launch} {κ : Kx} {L : List Nat} {f : Nat → va_E} {ℓ w n : Nat} {mc : Int32} {el : Nat → Nat} (hL : ℓ ∈ L) (hF : f ℓ = lC mc (kTE κ) (nI n)) (hw : w ∈ L) (hEw : isEl (f w)) (hn0 : n = 0) : PM l κ yJx4a65c_add_72be8 wsJx4a65c_add_72be8 ({ frames := 5, cells := 1, slots := 1500, locals := 133 } : Room) [.ref ℓ, .ref w, .ref (kTE κ), .int (nI n)] L f (fun v L1 f1 => v = none ∧ AddP κ L f ℓ (kTE κ) n el w L1 f1) noX 1 1500 := by
  refine PM.mk (cc := cJx4a65c_add_72be8) (maxL := 4) (ret := none) (by decide) rfl (Nat.le_of_ble_eq_true rfl) ?_
  intro p e s m args below meth c ls hx hb hml hr hlk hnm hown hts ht hh hl
  have hl : lv_has ls 4 [(0, .ref ℓ), (1, .ref w), (2, .ref (kTE κ)), (3, .int (nI n))] := hl
  have S : CallFix p m c cJx4a65c_add_72be8 4 s args wsJx4a65c_add_72be8 RJx4a65c := ⟨hx, hb, hml, hown, hts⟩
  have hin : ∀ w ∈ wsJx4a65c0, w ∈ wsJx4a65c_add_72be8 := by decide +kernel
  refine lv_iload_n hx hb dJx4a65c_add_72be8_0 rfl (lv_at hl 3 rfl) ?_
  refine lv_aload_n hx hb dJx4a65c_add_72be8_1 rfl (lv_at hl 2 rfl) ?_
  refine h_alenE hx hb hh dJx4a65c_add_72be8_2 ?_
  refine lv_icmp_ne (tgt := 11) hx hb dJx4a65c_add_72be8_3 (by decide) (fun c3 => ?_) (fun c3 => ?_)
  · exact absurd (by rw [hn0]; rfl) c3
  · refine lv_aload_n hx hb dJx4a65c_add_72be8_6 rfl (lv_at hl 0 rfl) ?_
    refine k_callV0 (As := []) (c_grow0E hL hF hn0) S hh (cwV 0 hts gJx4a65c_add_72be8_Jx4a65c_grow_d5877 rfl rfl rfl (by decide +kernel) ⟨(Nat.le_of_ble_eq_true rfl), (Nat.le_of_ble_eq_true rfl)⟩) hL hF (q := (RJx4a65c, TJx4a65c, 3)) rfl rfl rfl hl.1 rfl (Nat.le_of_ble_eq_true rfl) dJx4a65c_add_72be8_7 ⟨(Nat.le_of_ble_eq_true rfl), (Nat.le_of_ble_eq_true rfl)⟩ (fun v L1 f1 H locs hp hh => ?_)
    obtain ⟨q, hq, rfl, rfl, hq1, hq2, hq3⟩ := hp
    have hwq : w ≠ q := fun z => hq (z ▸ hw)
    have hlq : ℓ ≠ q := fun z => hq (z ▸ hL)
    have hwl : w ≠ ℓ := nEl (κ := κ) hF hEw
    have hE1 : isEl (f1 w) := by rw [hq3 w hwq hwl]; exact hEw
    refine lv_astore_n (lv' := [(2, .ref q), (0, .ref ℓ), (1, .ref w), (3, .int (nI n))]) hx hb dJx4a65c_add_72be8_10 rfl hl (by decide) rfl (fun ls hl => ?_)
    refine lv_aload_n hx hb dJx4a65c_add_72be8_11 rfl (lv_at hl 0 rfl) ?_
    refine lv_iload_n hx hb dJx4a65c_add_72be8_12 rfl (lv_at hl 3 rfl) ?_
    refine lv_aload_n hx hb dJx4a65c_add_72be8_13 rfl (lv_at hl 2 rfl) ?_
    refine h_aastk hx hb hh (List.mem_append_right _ List.mem_cons_self) hq1 (List.mem_append_left _ hw) hE1 rfl (k := n) (by omega) (by omega) dJx4a65c_add_72be8_14 (fun H locs hh => ?_)
    have hF2 : va_up f1 q (rowE κ 10 (va_up (fun _ => none) n (some w))) ℓ = lC mc q (nI n) := by rw [← hq2]; simp [va_up, hlq]
    refine lv_aload_n hx hb dJx4a65c_add_72be8_15 rfl (lv_at hl 1 rfl) ?_
    refine lv_iload_n hx hb dJx4a65c_add_72be8_16 rfl (lv_at hl 3 rfl) ?_
    refine lv_iconst (v := 1) hx hb dJx4a65c_add_72be8_17 (by decide) ?_
    refine lv_iadd hx hb dJx4a65c_add_72be8_18 ?_
    refine h_put hx hb hts hown hh (C := RJx4a65c) (T := TJx4a65c) (N := 3) (List.mem_append_left _ hL) hF2 rfl hin tyJx4a65c tyJx4a65c_ok nmJx4a65c 2 (by decide) (hts (.fieldLink RJx4a65c 48 "java/util/ArrayList" "size" "I") (by decide +kernel)) (fun _ h9 => h9) rfl (ty := .int) rfl rfl rfl (by simp) dJx4a65c_add_72be8_19 (fun H locs hh => ?_)
    exact k_vret hx hb hr hlk hh dJx4a65c_add_72be8_22 (Nat.le_of_ble_eq_true rfl) (Nat.le_of_ble_eq_true rfl) ⟨rfl, addP_grow (cap2 := 10) (g2 := (fun _ => none)) hL hF hq hw hEw (by simp [va_up, nI_1]) (by simp [va_up, hlq.symm]) (fun y hy hy2 => by simp [va_up, hy, hy2, hq3 y hy hy2]) ⟨by omega, by omega⟩ (by omega) (fun i hi => absurd hi (by omega)) (fun i y hy => nomatch hy)⟩

set_option maxRecDepth 100000 in
set_option maxHeartbeats 4000000 in
theorem c_add3N {l : Launch} {κ : Kx} {L : List Nat} {f : Nat → va_E} {ℓ ea w n : Nat} {mc : Int32} {el : Nat → Nat} (hL : ℓ ∈ L) (hF : f ℓ = lC mc ea (nI n)) (hw : w ∈ L) (hEw : isEl (f w)) {cap : Nat} {g : Nat → Option Nat} (hR : RO κ L f ea cap g) (hnc : n < cap) (hg : ∀ i, i < n → g i = some (el i)) : PM l κ yJx4a65c_add_72be8 wsJx4a65c_add_72be8 ({ frames := 5, cells := 1, slots := 1500, locals := 133 } : Room) [.ref ℓ, .ref w, .ref ea, .int (nI n)] L f (fun v L1 f1 => v = none ∧ AddP κ L f ℓ ea n el w L1 f1) noX 1 1500 := by
  refine PM.mk (cc := cJx4a65c_add_72be8) (maxL := 4) (ret := none) (by decide) rfl (Nat.le_of_ble_eq_true rfl) ?_
  intro p e s m args below meth c ls hx hb hml hr hlk hnm hown hts ht hh hl
  have hl : lv_has ls 4 [(0, .ref ℓ), (1, .ref w), (2, .ref ea), (3, .int (nI n))] := hl
  have S : CallFix p m c cJx4a65c_add_72be8 4 s args wsJx4a65c_add_72be8 RJx4a65c := ⟨hx, hb, hml, hown, hts⟩
  have hin : ∀ w ∈ wsJx4a65c0, w ∈ wsJx4a65c_add_72be8 := by decide +kernel
  have hc9 := hR.2.2.1.2
  refine lv_iload_n hx hb dJx4a65c_add_72be8_0 rfl (lv_at hl 3 rfl) ?_
  refine lv_aload_n hx hb dJx4a65c_add_72be8_1 rfl (lv_at hl 2 rfl) ?_
  refine h_alen hx hb hh hR.1 hR.2.1 dJx4a65c_add_72be8_2 ?_
  refine lv_icmp_ne (tgt := 11) hx hb dJx4a65c_add_72be8_3 (by decide) (fun c3 => ?_) (fun c3 => ?_)
  · refine lv_aload_n hx hb dJx4a65c_add_72be8_11 rfl (lv_at hl 2 rfl) ?_
    refine lv_iload_n hx hb dJx4a65c_add_72be8_12 rfl (lv_at hl 3 rfl) ?_
    refine lv_aload_n hx hb dJx4a65c_add_72be8_13 rfl (lv_at hl 1 rfl) ?_
    have hel : ℓ ≠ ea := fun z => by rw [z, hR.2.1] at hF; cases hF
    refine h_aastk hx hb hh hR.1 hR.2.1 hw hEw rfl (k := n) hnc (by omega) dJx4a65c_add_72be8_14 (fun H locs hh => ?_)
    have hF2 : va_up f ea (rowE κ cap (va_up g n (some w))) ℓ = lC mc ea (nI n) := by rw [← hF]; simp [va_up, hel]
    refine lv_aload_n hx hb dJx4a65c_add_72be8_15 rfl (lv_at hl 0 rfl) ?_
    refine lv_iload_n hx hb dJx4a65c_add_72be8_16 rfl (lv_at hl 3 rfl) ?_
    refine lv_iconst (v := 1) hx hb dJx4a65c_add_72be8_17 (by decide) ?_
    refine lv_iadd hx hb dJx4a65c_add_72be8_18 ?_
    refine h_put hx hb hts hown hh (C := RJx4a65c) (T := TJx4a65c) (N := 3) hL hF2 rfl hin tyJx4a65c tyJx4a65c_ok nmJx4a65c 2 (by decide) (hts (.fieldLink RJx4a65c 48 "java/util/ArrayList" "size" "I") (by decide +kernel)) (fun _ h9 => h9) rfl (ty := .int) rfl rfl rfl (by simp) dJx4a65c_add_72be8_19 (fun H locs hh => ?_)
    exact k_vret hx hb hr hlk hh dJx4a65c_add_72be8_22 (Nat.le_of_ble_eq_true rfl) (Nat.le_of_ble_eq_true rfl) ⟨rfl, addP_put hL hF hR hw hEw (by simp [va_up, nI_1]) (by simp [va_up, hel.symm]) (fun y hy hy2 => by simp [va_up, hy, hy2]) hnc hg⟩
  · exact absurd ((nI_eq (by omega) (by omega)).mp c3) (by omega)

theorem c_add3 {l : Launch} {κ : Kx} {L : List Nat} {f : Nat → va_E} {ℓ ea w n : Nat} {mc : Int32} {el : Nat → Nat} (hL : ℓ ∈ L) (hF : f ℓ = lC mc ea (nI n)) (hA : LA κ L f ℓ ea n el) (hw : w ∈ L) (hEw : isEl (f w)) (hn : n ≤ 600) : PM l κ yJx4a65c_add_72be8 wsJx4a65c_add_72be8 ({ frames := 5, cells := 1, slots := 1500, locals := 133 } : Room) [.ref ℓ, .ref w, .ref ea, .int (nI n)] L f (fun v L1 f1 => v = none ∧ AddP κ L f ℓ ea n el w L1 f1) noX 1 1500 := by
  rcases hA.2 with ⟨rfl, hn0⟩ | ⟨cap, g, hR, hnc, hg⟩
  · exact c_add3E hL hF hw hEw hn0
  · rcases Nat.lt_or_ge n cap with q | q
    · exact c_add3N hL hF hw hEw hR q hg
    · exact c_add3G hL hF hw hEw hR (by omega) (by omega) hg
theorem LA.mod {κ : Kx} {L : List Nat} {f : Nat → va_E} {lo ea n : Nat} {mc : Int32} {el : Nat → Nat} (hF : f lo = lC mc ea (nI n)) (hA : LA κ L f lo ea n el) (mc2 : Int32) : LA κ L (va_up f lo (lC mc2 ea (nI n))) lo ea n el := by
  refine ⟨⟨hA.1.1, mc2, by simp [va_up]⟩, ?_⟩
  rcases hA.2 with h | ⟨cap, g, hR, hnc, hg⟩
  · exact Or.inl h
  · exact Or.inr ⟨cap, g, hR.up (fun z => by rw [z, hR.2.1] at hF; cases hF) (fun h => by rw [hF] at h; exact (isEl_n0 h).elim), hnc, hg⟩
theorem AddP.of {κ : Kx} {L : List Nat} {f : Nat → va_E} {lo ea n w : Nat} {e2 : va_E} {el : Nat → Nat} {L1 : List Nat} {f1 : Nat → va_E} (h : AddP κ L (va_up f lo e2) lo ea n el w L1 f1) : AddP κ L f lo ea n el w L1 f1 := by
  obtain ⟨e1, h1, h2, h3, h4⟩ := h
  exact ⟨e1, h1, h2, fun q hq hq2 hq3 => by rw [h3 q hq hq2 hq3]; simp [va_up, hq2], h4⟩

set_option maxRecDepth 100000 in
set_option maxHeartbeats 4000000 in
theorem c_add1 {l : Launch} {κ : Kx} {L : List Nat} {f : Nat → va_E} {ℓ ea w n : Nat} {mc : Int32} {el : Nat → Nat} (hL : ℓ ∈ L) (hF : f ℓ = lC mc ea (nI n)) (hA : LA κ L f ℓ ea n el) (hw : w ∈ L) (hEw : isEl (f w)) (hn : n ≤ 600) : PM l κ yJx4a65c_add_9ea2d wsJx4a65c_add_9ea2d ({ frames := 6, cells := 1, slots := 1500, locals := 156 } : Room) [.ref ℓ, .ref w] L f (fun v L1 f1 => v = some (.int 1) ∧ AddP κ L f ℓ ea n el w L1 f1) noX 1 1500 := by
  refine PM.mk (cc := cJx4a65c_add_9ea2d) (maxL := 2) (ret := (some .boolean)) (by decide) rfl (Nat.le_of_ble_eq_true rfl) ?_
  intro p e s m args below meth c ls hx hb hml hr hlk hnm hown hts ht hh hl
  have hl : lv_has ls 2 [(0, .ref ℓ), (1, .ref w)] := hl
  have S : CallFix p m c cJx4a65c_add_9ea2d 2 s args wsJx4a65c_add_9ea2d RJx4a65c := ⟨hx, hb, hml, hown, hts⟩
  have hin : ∀ w ∈ wsJx4a65c0, w ∈ wsJx4a65c_add_9ea2d := by decide +kernel
  refine lv_aload_n hx hb dJx4a65c_add_9ea2d_0 rfl (lv_at hl 0 rfl) ?_
  refine lv_dup hx hb dJx4a65c_add_9ea2d_1 rfl ?_
  refine h_get hx hb hts hown hh (C := RJx4a65c) (T := TJx4a65c) (N := 3) hL hF rfl hin 0 (by decide) (hts (.fieldLink RJx4a65c 63 "java/util/ArrayList" "modCount" "I") (by decide +kernel)) (u_same (hts (.sameField "java/util/ArrayList" "java/util/AbstractList" "modCount" "I") (by decide +kernel))) rfl dJx4a65c_add_9ea2d_2 ?_
  refine lv_iconst (v := 1) hx hb dJx4a65c_add_9ea2d_5 (by decide) ?_
  refine lv_iadd hx hb dJx4a65c_add_9ea2d_6 ?_
  refine h_put hx hb hts hown hh (C := RJx4a65c) (T := TJx4a65c) (N := 3) hL hF rfl hin tyJx4a65c tyJx4a65c_ok nmJx4a65c 0 (by decide) (hts (.fieldLink RJx4a65c 63 "java/util/ArrayList" "modCount" "I") (by decide +kernel)) (u_same (hts (.sameField "java/util/ArrayList" "java/util/AbstractList" "modCount" "I") (by decide +kernel))) rfl (ty := .int) rfl rfl rfl (by simp) dJx4a65c_add_9ea2d_7 (fun H locs hh => ?_)
  have hA2 := LA.mod hF hA (mc + 1)
  have hF2 : va_up f ℓ (lC (mc + 1) ea (nI n)) ℓ = lC (mc + 1) ea (nI n) := by simp [va_up]
  have hE2 : isEl (va_up f ℓ (lC (mc + 1) ea (nI n)) w) := by
    rw [show va_up f ℓ (lC (mc + 1) ea (nI n)) w = f w by simp [va_up, nEl (κ := κ) hF hEw]]
    exact hEw
  refine lv_aload_n hx hb dJx4a65c_add_9ea2d_10 rfl (lv_at hl 0 rfl) ?_
  refine lv_aload_n hx hb dJx4a65c_add_9ea2d_11 rfl (lv_at hl 1 rfl) ?_
  refine lv_aload_n hx hb dJx4a65c_add_9ea2d_12 rfl (lv_at hl 0 rfl) ?_
  refine h_get hx hb hts hown hh (C := RJx4a65c) (T := TJx4a65c) (N := 3) hL hF2 rfl hin 1 (by decide) (hts (.fieldLink RJx4a65c 9 "java/util/ArrayList" "elementData" "[Ljava/lang/Object;") (by decide +kernel)) (fun _ h9 => h9) rfl dJx4a65c_add_9ea2d_13 ?_
  refine lv_aload_n hx hb dJx4a65c_add_9ea2d_16 rfl (lv_at hl 0 rfl) ?_
  refine h_get hx hb hts hown hh (C := RJx4a65c) (T := TJx4a65c) (N := 3) hL hF2 rfl hin 2 (by decide) (hts (.fieldLink RJx4a65c 48 "java/util/ArrayList" "size" "I") (by decide +kernel)) (fun _ h9 => h9) rfl dJx4a65c_add_9ea2d_17 ?_
  refine k_callV0 (As := [.ref w, .ref ea, .int (nI n)]) (c_add3 hL hF2 hA2 hw hE2 hn) S hh (cwV 3 hts gJx4a65c_add_9ea2d_Jx4a65c_add_72be8 rfl rfl rfl (by decide +kernel) ⟨(Nat.le_of_ble_eq_true rfl), (Nat.le_of_ble_eq_true rfl)⟩) hL hF2 (q := (RJx4a65c, TJx4a65c, 3)) rfl rfl rfl hl.1 rfl (Nat.le_of_ble_eq_true rfl) dJx4a65c_add_9ea2d_20 ⟨(Nat.le_of_ble_eq_true rfl), (Nat.le_of_ble_eq_true rfl)⟩ (fun v L1 f1 H locs hp hh => ?_)
  have hv9 := hp.1
  subst hv9
  refine lv_iconst (v := 1) hx hb dJx4a65c_add_9ea2d_23 (by decide) ?_
  exact k_zret hx hb hr hlk (rfl) hh dJx4a65c_add_9ea2d_24 (Nat.le_of_ble_eq_true rfl) (Nat.le_of_ble_eq_true rfl) ⟨rfl, hp.2.of⟩
end
section
def remEl (el : Nat → Nat) (k : Nat) : Nat → Nat := fun i => if i < k then el i else el (i + 1)
/-- the list without its place k -/
def RemP (κ : Kx) (L : List Nat) (f : Nat → va_E) (lo ea n k : Nat) (el : Nat → Nat) (f1 : Nat → va_E) : Prop := LA κ L f1 lo ea (n - 1) (remEl el k) ∧ ∀ q, q ≠ lo → q ≠ ea → f1 q = f q
theorem remP_of {κ : Kx} {L : List Nat} {f f5 : Nat → va_E} {lo ea n k cap : Nat} {mc mc2 : Int32} {el : Nat → Nat} {g g2 : Nat → Option Nat} (hL : lo ∈ L) (hF : f lo = lC mc ea (nI n)) (hR : RO κ L f ea cap g) (hn : n ≤ cap) (h1 : f5 lo = lC mc2 ea (nI (n - 1))) (h2 : f5 ea = rowE κ cap g2) (h3 : ∀ y, y ≠ ea → y ≠ lo → f5 y = f y) (hg : ∀ i y, i < cap → g2 i = some y → ∃ j, j < cap ∧ g j = some y) (he : ∀ i, i < n - 1 → g2 i = some (remEl el k i)) : RemP κ L f lo ea n k el f5 := by
  refine ⟨⟨⟨hL, mc2, h1⟩, Or.inr ⟨cap, g2, ⟨hR.1, h2, hR.2.2.1, fun i y hi hy => ?_⟩, by omega, he⟩⟩, fun q hq hq2 => h3 q hq2 hq⟩
  obtain ⟨j, hj, hgj⟩ := hg i y hi hy
  obtain ⟨hy1, hy2⟩ := hR.2.2.2 j y hj hgj
  refine ⟨hy1, ?_⟩
  rw [h3 y (fun z => by rw [z, hR.2.1] at hy2; exact isEl_nr hy2) (nEl (κ := κ) hF hy2)]
  exact hy2
theorem rem_last {g : Nat → Option Nat} {el : Nat → Nat} {n k cap : Nat} (hk : k < n) (hkn : n - 1 ≤ k) (hn : n ≤ cap) (hg : ∀ i, i < n → g i = some (el i)) : (∀ i y, i < cap → va_up g (n - 1) none i = some y → ∃ j, j < cap ∧ g j = some y) ∧ ∀ i, i < n - 1 → va_up g (n - 1) none i = some (remEl el k i) := by
  constructor
  · intro i y hi hy
    by_cases hin : i = n - 1
    · simp [va_up, hin] at hy
    · exact ⟨i, hi, by simpa [va_up, hin] using hy⟩
  · intro i hi
    have h1 : i ≠ n - 1 := by omega
    have h2 : i < k := by omega
    simp [va_up, h1, remEl, h2, hg i (by omega)]
theorem rem_mid {g : Nat → Option Nat} {el : Nat → Nat} {n k cap : Nat} (hk : k < n - 1) (hn : n ≤ cap) (hg : ∀ i, i < n → g i = some (el i)) : (∀ i y, i < cap → va_up (va_cpy g g (k + 1) k (n - 1 - k)) (n - 1) none i = some y → ∃ j, j < cap ∧ g j = some y) ∧ ∀ i, i < n - 1 → va_up (va_cpy g g (k + 1) k (n - 1 - k)) (n - 1) none i = some (remEl el k i) := by
  constructor
  · intro i y hi hy
    by_cases hin : i = n - 1
    · simp [va_up, hin] at hy
    · by_cases hc : k ≤ i ∧ i < k + (n - 1 - k)
      · exact ⟨k + 1 + (i - k), by omega, by simpa [va_up, hin, va_cpy, hc] using hy⟩
      · exact ⟨i, hi, by simpa [va_up, hin, va_cpy, hc] using hy⟩
  · intro i hi
    have h1 : i ≠ n - 1 := by omega
    by_cases h2 : i < k
    · have hc : ¬ (k ≤ i ∧ i < k + (n - 1 - k)) := by omega
      simp only [va_up, h1, va_cpy, hc, remEl, h2, if_false, if_true]
      exact hg i (by omega)
    · have hc : k ≤ i ∧ i < k + (n - 1 - k) := by omega
      have e1 : k + 1 + (i - k) = i + 1 := by omega
      simp only [va_up, h1, va_cpy, hc, remEl, h2, if_false, if_true, e1, and_self]
      exact hg (i + 1) (by omega)
theorem RemP.of {κ : Kx} {L : List Nat} {f : Nat → va_E} {lo ea n k : Nat} {e2 : va_E} {el : Nat → Nat} {f1 : Nat → va_E} (h : RemP κ L (va_up f lo e2) lo ea n k el f1) : RemP κ L f lo ea n k el f1 :=
  ⟨h.1, fun q hq hq2 => by rw [h.2 q hq hq2]; simp [va_up, hq]⟩

set_option maxRecDepth 100000 in
set_option maxHeartbeats 4000000 in
theorem c_fastRem {l : Launch} {κ : Kx} {L : List Nat} {f : Nat → va_E} {ℓ ea n k cap : Nat} {mc : Int32} {el : Nat → Nat} {g : Nat → Option Nat} (hL : ℓ ∈ L) (hF : f ℓ = lC mc ea (nI n)) (hR : RO κ L f ea cap g) (hn : n ≤ cap) (hk : k < n) (hg : ∀ i, i < n → g i = some (el i)) : PM l κ yJx4a65c_fastRemove_b59b0 wsJx4a65c_fastRemove_b59b0 ({ frames := 1, cells := 0, slots := 0, locals := 20 } : Room) [.ref ℓ, .ref ea, .int (nI k)] L f (fun v L1 f1 => v = none ∧ L = L1 ∧ RemP κ L f ℓ ea n k el f1) noX 0 0 := by
  refine PM.mk (cc := cJx4a65c_fastRemove_b59b0) (maxL := 4) (ret := none) (by decide) rfl (Nat.le_of_ble_eq_true rfl) ?_
  intro p e s m args below meth c ls hx hb hml hr hlk hnm hown hts ht hh hl
  have hl : lv_has ls 4 [(0, .ref ℓ), (1, .ref ea), (2, .int (nI k))] := hl
  have S : CallFix p m c cJx4a65c_fastRemove_b59b0 4 s args wsJx4a65c_fastRemove_b59b0 RJx4a65c := ⟨hx, hb, hml, hown, hts⟩
  have hin : ∀ w ∈ wsJx4a65c0, w ∈ wsJx4a65c_fastRemove_b59b0 := by decide +kernel
  have hc9 := hR.2.2.1.2
  refine lv_aload_n hx hb dJx4a65c_fastRemove_b59b0_0 rfl (lv_at hl 0 rfl) ?_
  refine lv_dup hx hb dJx4a65c_fastRemove_b59b0_1 rfl ?_
  refine h_get hx hb hts hown hh (C := RJx4a65c) (T := TJx4a65c) (N := 3) hL hF rfl hin 0 (by decide) (hts (.fieldLink RJx4a65c 63 "java/util/ArrayList" "modCount" "I") (by decide +kernel)) (u_same (hts (.sameField "java/util/ArrayList" "java/util/AbstractList" "modCount" "I") (by decide +kernel))) rfl dJx4a65c_fastRemove_b59b0_2 ?_
  refine lv_iconst (v := 1) hx hb dJx4a65c_fastRemove_b59b0_5 (by decide) ?_
  refine lv_iadd hx hb dJx4a65c_fastRemove_b59b0_6 ?_
  refine h_put hx hb hts hown hh (C := RJx4a65c) (T := TJx4a65c) (N := 3) hL hF rfl hin tyJx4a65c tyJx4a65c_ok nmJx4a65c 0 (by decide) (hts (.fieldLink RJx4a65c 63 "java/util/ArrayList" "modCount" "I") (by decide +kernel)) (u_same (hts (.sameField "java/util/ArrayList" "java/util/AbstractList" "modCount" "I") (by decide +kernel))) rfl (ty := .int) rfl rfl rfl (by simp) dJx4a65c_fastRemove_b59b0_7 (fun H locs hh => ?_)
  have hea : ea ≠ ℓ := fun z => by rw [← z, hR.2.1] at hF; cases hF
  have hR2 : RO κ L (va_up f ℓ (lC (mc + 1) ea (nI n))) ea cap g := hR.up hea.symm (fun h => by rw [hF] at h; exact (isEl_n0 h).elim)
  have hF2 : (va_up f ℓ (lC (mc + 1) ea (nI n))) ℓ = (lC (mc + 1) ea (nI n)) := by simp [va_up]
  refine lv_aload_n hx hb dJx4a65c_fastRemove_b59b0_10 rfl (lv_at hl 0 rfl) ?_
  refine h_get hx hb hts hown hh (C := RJx4a65c) (T := TJx4a65c) (N := 3) hL hF2 rfl hin 2 (by decide) (hts (.fieldLink RJx4a65c 48 "java/util/ArrayList" "size" "I") (by decide +kernel)) (fun _ h9 => h9) rfl dJx4a65c_fastRemove_b59b0_11 ?_
  refine lv_iconst (v := 1) hx hb dJx4a65c_fastRemove_b59b0_14 (by decide) ?_
  refine lv_isub hx hb dJx4a65c_fastRemove_b59b0_15 ?_
  refine lv_dup hx hb dJx4a65c_fastRemove_b59b0_16 rfl ?_
  refine lv_topi (fun x17 e17 => ?_)
  refine lv_istore_n (lv' := [(3, .int x17), (0, .ref ℓ), (1, .ref ea), (2, .int (nI k))]) hx hb dJx4a65c_fastRemove_b59b0_17 rfl hl (by decide) rfl (fun ls hl => ?_)
  have e17b : x17 = nI (n - 1) := by rw [e17]; exact pk_sub (b := 1) (by omega)
  refine lv_iload_n hx hb dJx4a65c_fastRemove_b59b0_18 rfl (lv_at hl 3 rfl) ?_
  refine lv_icmp_le (tgt := 34) hx hb dJx4a65c_fastRemove_b59b0_19 (by decide) (fun c19 => ?_) (fun c19 => ?_)
  · have hkn : n - 1 ≤ k := by rw [← e17, e17b] at c19; exact (nI_leI (by omega) (by omega)).mp c19
    have hF3 : (va_up f ℓ (lC (mc + 1) ea (nI n))) ℓ = (lC (mc + 1) ea (nI n)) := hF2
    refine lv_aload_n hx hb dJx4a65c_fastRemove_b59b0_34 rfl (lv_at hl 2 rfl) ?_
    refine lv_aload_n hx hb dJx4a65c_fastRemove_b59b0_35 rfl (lv_at hl 1 rfl) ?_
    refine lv_iload_n hx hb dJx4a65c_fastRemove_b59b0_36 rfl (lv_at hl 0 rfl) ?_
    refine lv_dup_x1 hx hb dJx4a65c_fastRemove_b59b0_37 rfl rfl ?_
    refine h_put hx hb hts hown hh (C := RJx4a65c) (T := TJx4a65c) (N := 3) hL hF3 rfl hin tyJx4a65c tyJx4a65c_ok nmJx4a65c 2 (by decide) (hts (.fieldLink RJx4a65c 48 "java/util/ArrayList" "size" "I") (by decide +kernel)) (fun _ h9 => h9) rfl (ty := .int) rfl rfl rfl (by simp) dJx4a65c_fastRemove_b59b0_38 (fun H locs hh => ?_)
    refine lv_null hx hb dJx4a65c_fastRemove_b59b0_41 ?_
    refine h_aastNk hx hb hh hR.1 (show _ = rowE κ cap g by simp [va_up, hea, hR.2.1]) e17b (k := n - 1) (by omega) (by omega) dJx4a65c_fastRemove_b59b0_42 (fun H locs hh => ?_)
    subst e17
    exact k_vret hx hb hr hlk hh dJx4a65c_fastRemove_b59b0_43 (Nat.le_of_ble_eq_true rfl) (Nat.le_of_ble_eq_true rfl) ⟨rfl, rfl, remP_of (mc2 := mc + 1) (g2 := va_up g (n - 1) none) hL hF hR hn (by simp [va_up, hea.symm, e17b]) (by simp [va_up]) (fun y hy hy2 => by simp [va_up, hy, hy2]) (rem_last hk hkn hn hg).1 (rem_last hk hkn hn hg).2⟩
  · have hkn : k < n - 1 := by
      rcases Nat.lt_or_ge k (n - 1) with q | q
      · exact q
      · exact absurd (by rw [← e17, e17b]; exact nI_le q (by omega)) c19
    refine lv_aload_n hx hb dJx4a65c_fastRemove_b59b0_22 rfl (lv_at hl 2 rfl) ?_
    refine lv_iload_n hx hb dJx4a65c_fastRemove_b59b0_23 rfl (lv_at hl 3 rfl) ?_
    refine lv_iconst (v := 1) hx hb dJx4a65c_fastRemove_b59b0_24 (by decide) ?_
    refine lv_iadd hx hb dJx4a65c_fastRemove_b59b0_25 ?_
    refine lv_aload_n hx hb dJx4a65c_fastRemove_b59b0_26 rfl (lv_at hl 2 rfl) ?_
    refine lv_iload_n hx hb dJx4a65c_fastRemove_b59b0_27 rfl (lv_at hl 3 rfl) ?_
    refine lv_iload_n hx hb dJx4a65c_fastRemove_b59b0_28 rfl (lv_at hl 0 rfl) ?_
    refine lv_iload_n hx hb dJx4a65c_fastRemove_b59b0_29 rfl (lv_at hl 3 rfl) ?_
    refine lv_isub hx hb dJx4a65c_fastRemove_b59b0_30 ?_
    refine h_copy hx hb (hml.trans hl.1.symm) hown hts (by decide +kernel) (by decide +kernel) (by decide +kernel) (by decide +kernel) hh hR.1 hR2.2.1 hR.1 hR2.2.1 (k + 1) k (n - 1 - k) (nI_1 k) rfl (by rw [e17b, pk_sub (by omega)]) (by omega) (by omega) ⟨by omega, by omega⟩ (fun t y ht hy => hR2.2.2.2 _ y (by omega) hy) (Nat.le_of_ble_eq_true rfl) (Nat.le_of_ble_eq_true rfl) dJx4a65c_fastRemove_b59b0_31 (fun H locs hh => ?_)
    have hF3 : va_up (va_up f ℓ (lC (mc + 1) ea (nI n))) ea (rowE κ cap (va_cpy g g (k + 1) k (n - 1 - k))) ℓ = (lC (mc + 1) ea (nI n)) := by simp [va_up, hea.symm]
    refine lv_aload_n hx hb dJx4a65c_fastRemove_b59b0_34 rfl (lv_at hl 2 rfl) ?_
    refine lv_aload_n hx hb dJx4a65c_fastRemove_b59b0_35 rfl (lv_at hl 1 rfl) ?_
    refine lv_iload_n hx hb dJx4a65c_fastRemove_b59b0_36 rfl (lv_at hl 0 rfl) ?_
    refine lv_dup_x1 hx hb dJx4a65c_fastRemove_b59b0_37 rfl rfl ?_
    refine h_put hx hb hts hown hh (C := RJx4a65c) (T := TJx4a65c) (N := 3) hL hF3 rfl hin tyJx4a65c tyJx4a65c_ok nmJx4a65c 2 (by decide) (hts (.fieldLink RJx4a65c 48 "java/util/ArrayList" "size" "I") (by decide +kernel)) (fun _ h9 => h9) rfl (ty := .int) rfl rfl rfl (by simp) dJx4a65c_fastRemove_b59b0_38 (fun H locs hh => ?_)
    refine lv_null hx hb dJx4a65c_fastRemove_b59b0_41 ?_
    refine h_aastNk hx hb hh hR.1 (show _ = rowE κ cap (va_cpy g g (k + 1) k (n - 1 - k)) by simp [va_up, hea, hR.2.1]) e17b (k := n - 1) (by omega) (by omega) dJx4a65c_fastRemove_b59b0_42 (fun H locs hh => ?_)
    subst e17
    exact k_vret hx hb hr hlk hh dJx4a65c_fastRemove_b59b0_43 (Nat.le_of_ble_eq_true rfl) (Nat.le_of_ble_eq_true rfl) ⟨rfl, rfl, remP_of (mc2 := mc + 1) (g2 := va_up (va_cpy g g (k + 1) k (n - 1 - k)) (n - 1) none) hL hF hR hn (by simp [va_up, hea.symm, e17b]) (by simp [va_up]) (fun y hy hy2 => by simp [va_up, hy, hy2]) (rem_mid hkn hn hg).1 (rem_mid hkn hn hg).2⟩

set_option maxRecDepth 100000 in
set_option maxHeartbeats 4000000 in
theorem c_remove {l : Launch} {κ : Kx} {L : List Nat} {f : Nat → va_E} {ℓ ea n k cap : Nat} {mc : Int32} {el : Nat → Nat} {g : Nat → Option Nat} (hL : ℓ ∈ L) (hF : f ℓ = lC mc ea (nI n)) (hR : RO κ L f ea cap g) (hn : n ≤ cap) (hk : k < n) (hg : ∀ i, i < n → g i = some (el i)) : PM l κ yJx4a65c_remove_915e3 wsJx4a65c_remove_915e3 ({ frames := 2, cells := 0, slots := 0, locals := 43 } : Room) [.ref ℓ, .int (nI k)] L f (fun v L1 f1 => v = some (.ref (el k)) ∧ L = L1 ∧ RemP κ L f ℓ ea n k el f1) noX 0 0 := by
  refine PM.mk (cc := cJx4a65c_remove_915e3) (maxL := 4) (ret := (some (.object "java/lang/Object"))) (by decide) rfl (Nat.le_of_ble_eq_true rfl) ?_
  intro p e s m args below meth c ls hx hb hml hr hlk hnm hown hts ht hh hl
  have hl : lv_has ls 4 [(0, .ref ℓ), (1, .int (nI k))] := hl
  have S : CallFix p m c cJx4a65c_remove_915e3 4 s args wsJx4a65c_remove_915e3 RJx4a65c := ⟨hx, hb, hml, hown, hts⟩
  have hin : ∀ w ∈ wsJx4a65c0, w ∈ wsJx4a65c_remove_915e3 := by decide +kernel
  have hc9 := hR.2.2.1.2
  refine lv_iload_n hx hb dJx4a65c_remove_915e3_0 rfl (lv_at hl 1 rfl) ?_
  refine lv_aload_n hx hb dJx4a65c_remove_915e3_1 rfl (lv_at hl 0 rfl) ?_
  refine h_get hx hb hts hown hh (C := RJx4a65c) (T := TJx4a65c) (N := 3) hL hF rfl hin 2 (by decide) (hts (.fieldLink RJx4a65c 48 "java/util/ArrayList" "size" "I") (by decide +kernel)) (fun _ h9 => h9) rfl dJx4a65c_remove_915e3_2 ?_
  refine k_callS0 (As := [.int (nI k), .int (nI n)]) (c_chk15 (nI_pos (n := k) (by omega)) (nI_lt hk (by omega))) S hh (va_cwS 2 hts gJx4a65c_remove_915e3_J15_checkIndex_7cf53 rfl rfl rfl (by decide +kernel) ⟨(Nat.le_of_ble_eq_true rfl), (Nat.le_of_ble_eq_true rfl)⟩) rfl hl.1 rfl (Nat.le_of_ble_eq_true rfl) dJx4a65c_remove_915e3_5 ⟨(Nat.le_of_ble_eq_true rfl), (Nat.le_of_ble_eq_true rfl)⟩ (fun v L1 f1 H locs hp hh => ?_)
  obtain ⟨rfl, hL1, hf1⟩ := hp
  subst hL1; subst hf1
  refine lv_pop hx hb dJx4a65c_remove_915e3_8 rfl ?_
  refine lv_aload_n hx hb dJx4a65c_remove_915e3_9 rfl (lv_at hl 0 rfl) ?_
  refine h_get hx hb hts hown hh (C := RJx4a65c) (T := TJx4a65c) (N := 3) hL hF rfl hin 1 (by decide) (hts (.fieldLink RJx4a65c 9 "java/util/ArrayList" "elementData" "[Ljava/lang/Object;") (by decide +kernel)) (fun _ h9 => h9) rfl dJx4a65c_remove_915e3_10 ?_
  refine lv_astore_n (lv' := [(2, .ref ea), (0, .ref ℓ), (1, .int (nI k))]) hx hb dJx4a65c_remove_915e3_13 rfl hl (by decide) rfl (fun ls hl => ?_)
  refine lv_aload_n hx hb dJx4a65c_remove_915e3_14 rfl (lv_at hl 0 rfl) ?_
  refine lv_iload_n hx hb dJx4a65c_remove_915e3_15 rfl (lv_at hl 2 rfl) ?_
  refine h_aaldk hx hb hh hR.1 hR.2.1 rfl (by omega) (by omega) (hg k hk) dJx4a65c_remove_915e3_16 ?_
  refine lv_astore_n (lv' := [(3, .ref (el k)), (2, .ref ea), (0, .ref ℓ), (1, .int (nI k))]) hx hb dJx4a65c_remove_915e3_17 rfl hl (by decide) rfl (fun ls hl => ?_)
  refine lv_aload_n hx hb dJx4a65c_remove_915e3_18 rfl (lv_at hl 2 rfl) ?_
  refine lv_aload_n hx hb dJx4a65c_remove_915e3_19 rfl (lv_at hl 1 rfl) ?_
  refine lv_iload_n hx hb dJx4a65c_remove_915e3_20 rfl (lv_at hl 3 rfl) ?_
  refine k_callV0 (As := [.ref ea, .int (nI k)]) (c_fastRem hL hF hR hn hk hg) S hh (cwV 2 hts gJx4a65c_remove_915e3_Jx4a65c_fastRemove_b59b0 rfl rfl rfl (by decide +kernel) ⟨(Nat.le_of_ble_eq_true rfl), (Nat.le_of_ble_eq_true rfl)⟩) hL hF (q := (RJx4a65c, TJx4a65c, 3)) rfl rfl rfl hl.1 rfl (Nat.le_of_ble_eq_true rfl) dJx4a65c_remove_915e3_21 ⟨(Nat.le_of_ble_eq_true rfl), (Nat.le_of_ble_eq_true rfl)⟩ (fun v L1 f1 H locs hp hh => ?_)
  have hv9 := hp.1
  subst hv9
  refine lv_aload_n hx hb dJx4a65c_remove_915e3_24 rfl (lv_at hl 0 rfl) ?_
  exact k_aret hx hb hr (Or.inl ⟨_, rfl⟩) hlk hh dJx4a65c_remove_915e3_25 (Nat.le_of_ble_eq_true rfl) (Nat.le_of_ble_eq_true rfl) ⟨rfl, hp.2.1, hp.2.2⟩

set_option maxRecDepth 100000 in
set_option maxHeartbeats 4000000 in
theorem c_acinit {l : Launch} {κ : Kx} {L : List Nat} {f : Nat → va_E} {ℓ : Nat} : PC l κ yJxa1e45_init_da8c8 wsJxa1e45_init_da8c8 ({ frames := 1, cells := 0, slots := 0, locals := 12 } : Room) [.ref ℓ] L f (fun v L1 f1 => v = none ∧ L = L1 ∧ f = f1) 0 0 := by
  refine PC.mk (cc := cJxa1e45_init_da8c8) (maxL := 1) (ret := none) (by decide) rfl (Nat.le_of_ble_eq_true rfl) ?_
  intro p e s m args below meth c ls hx hb hml hr hlk hnm hown hts hh hl
  have hl : lv_has ls 1 [(0, .ref ℓ)] := hl
  have S : CallFix p m c cJxa1e45_init_da8c8 1 s args wsJxa1e45_init_da8c8 RJxa1e45 := ⟨hx, hb, hml, hown, hts⟩
  refine lv_aload_n hx hb dJxa1e45_init_da8c8_0 rfl (lv_at hl 0 rfl) ?_
  refine W.objInit hx hb hown (hts (.methodLink RJxa1e45 1 objectInit) (by decide +kernel)) (hts (.instanceMethod objectInit) (by decide +kernel)) (hts (.code objectInit ⟨#[0xb1]⟩ 1 none) (by decide +kernel)) rfl (by rw [hml]; exact hl.1) rfl dJxa1e45_init_da8c8_1 (Nat.le_of_ble_eq_true rfl) (Nat.le_of_ble_eq_true rfl) ?_
  refine W.eq (g2 := F0 m 4 ls []) rfl ?_
  exact k_cret hx hb hr hlk hh dJxa1e45_init_da8c8_4 (Nat.le_of_ble_eq_true rfl) (Nat.le_of_ble_eq_true rfl) ⟨rfl, rfl, rfl⟩

set_option maxRecDepth 100000 in
set_option maxHeartbeats 4000000 in
theorem c_alinit0 {l : Launch} {κ : Kx} {L : List Nat} {f : Nat → va_E} {ℓ : Nat} (hL : ℓ ∈ L) (hF : f ℓ = .inr (0, [.int 0, .null, .int 0])) : PC l κ yJxc12de_init_da8c8 wsJxc12de_init_da8c8 ({ frames := 2, cells := 0, slots := 0, locals := 32 } : Room) [.ref ℓ] L f (fun v L1 f1 => v = none ∧ L = L1 ∧ f1 ℓ = .inr (0, [.int 0, .null, .int 0]) ∧ ∀ q, q ≠ ℓ → f1 q = f q) 0 0 := by
  refine PC.mk (cc := cJxc12de_init_da8c8) (maxL := 1) (ret := none) (by decide) rfl (Nat.le_of_ble_eq_true rfl) ?_
  intro p e s m args below meth c ls hx hb hml hr hlk hnm hown hts hh hl
  have hl : lv_has ls 1 [(0, .ref ℓ)] := hl
  have S : CallFix p m c cJxc12de_init_da8c8 1 s args wsJxc12de_init_da8c8 RJxc12de := ⟨hx, hb, hml, hown, hts⟩
  have hin : ∀ w ∈ wsJx4a65c0, w ∈ wsJxc12de_init_da8c8 := by decide +kernel
  refine lv_aload_n hx hb dJxc12de_init_da8c8_0 rfl (lv_at hl 0 rfl) ?_
  refine k_callI (As := []) c_acinit S hh (cwI 0 hts gJxc12de_init_da8c8_Jxa1e45_init_da8c8 rfl rfl rfl (hts (.initialized RJxa1e45) (by decide +kernel)) (hts (.methodLink RJxc12de 1 yJxa1e45_init_da8c8) (by decide +kernel)) (hts (.instanceMethod yJxa1e45_init_da8c8) (by decide +kernel)) rfl (by decide +kernel) ⟨(Nat.le_of_ble_eq_true rfl), (Nat.le_of_ble_eq_true rfl)⟩) rfl hl.1 rfl (Nat.le_of_ble_eq_true rfl) dJxc12de_init_da8c8_1 ⟨(Nat.le_of_ble_eq_true rfl), (Nat.le_of_ble_eq_true rfl)⟩ (fun v L1 f1 H locs hp hh => ?_)
  obtain ⟨rfl, hL1, hf1⟩ := hp
  subst hL1; subst hf1
  refine lv_aload_n hx hb dJxc12de_init_da8c8_4 rfl (lv_at hl 0 rfl) ?_
  refine lv_iconst (v := 0) hx hb dJxc12de_init_da8c8_5 (by decide) ?_
  refine h_put hx hb hts hown hh (C := RJx4a65c) (T := TJx4a65c) (N := 3) hL hF rfl hin tyJx4a65c tyJx4a65c_ok nmJx4a65c 0 (by decide) (hts (.fieldLink RJxc12de 7 "java/util/AbstractList" "modCount" "I") (by decide +kernel)) (fun _ h9 => h9) rfl (ty := .int) rfl rfl rfl (by simp) dJxc12de_init_da8c8_6 (fun H locs hh => ?_)
  exact k_cret hx hb hr hlk hh dJxc12de_init_da8c8_9 (Nat.le_of_ble_eq_true rfl) (Nat.le_of_ble_eq_true rfl) ⟨rfl, rfl, by simp [va_up], fun q hq => by simp [va_up, hq]⟩

set_option maxRecDepth 100000 in
set_option maxHeartbeats 4000000 in
theorem c_alinit {l : Launch} {κ : Kx} {L : List Nat} {f : Nat → va_E} {ℓ : Nat} (hL : ℓ ∈ L) (hF : f ℓ = .inr (0, [.int 0, .null, .int 0])) : PC l κ yJx4a65c_init_da8c8 wsJx4a65c_init_da8c8 ({ frames := 3, cells := 0, slots := 0, locals := 52 } : Room) [.ref ℓ] L f (fun v L1 f1 => v = none ∧ L = L1 ∧ f1 ℓ = lC 0 (kTE κ) 0 ∧ ∀ q, q ≠ ℓ → f1 q = f q) 0 0 := by
  refine PC.mk (cc := cJx4a65c_init_da8c8) (maxL := 1) (ret := none) (by decide) rfl (Nat.le_of_ble_eq_true rfl) ?_
  intro p e s m args below meth c ls hx hb hml hr hlk hnm hown hts hh hl
  have hl : lv_has ls 1 [(0, .ref ℓ)] := hl
  have S : CallFix p m c cJx4a65c_init_da8c8 1 s args wsJx4a65c_init_da8c8 RJx4a65c := ⟨hx, hb, hml, hown, hts⟩
  have hin : ∀ w ∈ wsJx4a65c0, w ∈ wsJx4a65c_init_da8c8 := by decide +kernel
  refine lv_aload_n hx hb dJx4a65c_init_da8c8_0 rfl (lv_at hl 0 rfl) ?_
  refine k_callI (As := []) (c_alinit0 hL hF) S hh (cwI 0 hts gJx4a65c_init_da8c8_Jxc12de_init_da8c8 rfl rfl rfl (hts (.initialized RJxc12de) (by decide +kernel)) (hts (.methodLink RJx4a65c 1 yJxc12de_init_da8c8) (by decide +kernel)) (hts (.instanceMethod yJxc12de_init_da8c8) (by decide +kernel)) rfl (by decide +kernel) ⟨(Nat.le_of_ble_eq_true rfl), (Nat.le_of_ble_eq_true rfl)⟩) rfl hl.1 rfl (Nat.le_of_ble_eq_true rfl) dJx4a65c_init_da8c8_1 ⟨(Nat.le_of_ble_eq_true rfl), (Nat.le_of_ble_eq_true rfl)⟩ (fun v L1 f1 H locs hp hh => ?_)
  obtain ⟨rfl, hL1, h3, h4⟩ := hp
  subst hL1
  refine lv_aload_n hx hb dJx4a65c_init_da8c8_4 rfl (lv_at hl 0 rfl) ?_
  refine va_gets hx hb hh.2.2.2.2.2.2.1.1 hh.2.2.2.1 hown (hts (.fieldLink RJx4a65c 39 "java/util/ArrayList" "DEFAULTCAPACITY_EMPTY_ELEMENTDATA" "[Ljava/lang/Object;") (by decide +kernel)) (fun _ h9 => h9) dJx4a65c_init_da8c8_5 ?_
  refine h_put hx hb hts hown hh (C := RJx4a65c) (T := TJx4a65c) (N := 3) hL h3 rfl hin tyJx4a65c tyJx4a65c_ok nmJx4a65c 1 (by decide) (hts (.fieldLink RJx4a65c 9 "java/util/ArrayList" "elementData" "[Ljava/lang/Object;") (by decide +kernel)) (fun _ h9 => h9) rfl (ty := .array (.object "java/lang/Object")) rfl rfl rfl (by simp) dJx4a65c_init_da8c8_8 (fun H locs hh => ?_)
  exact k_cret hx hb hr hlk hh dJx4a65c_init_da8c8_11 (Nat.le_of_ble_eq_true rfl) (Nat.le_of_ble_eq_true rfl) ⟨rfl, rfl, by simp [va_up], fun q hq => by simp [va_up, hq, h4 q hq]⟩
end
section
/-! the class's state by numbers: C k i: 0 coal, 1 hold, 2 load, 3 dust, 4 place, 5 home, 6 the gang of the order (-1: none), 7 its steamer, 8 hoursOut, 9 men, 10 hoursCounted, 11 rest, 12 want, 13 patience, 14 fate, 15 aboard, 16 clock, 17 delivered. N: how many hulks, lighters, gangs, steamers, present. P: the steamers present. a: addresses (0 hulks, 1 lighters, 2 gangs, 3 steamers, 4 orders, 5 the lists, 6 their rows) -/
abbrev AD : Type := Nat → Nat → Nat
def hFv (C : MS) (i : Nat) : List Value := [.int (C 0 i)]
def lFv (a : AD) (C : MS) (i : Nat) : List Value := [.int (C 1 i), .int (C 2 i), .int (C 3 i), .int (C 4 i), .int (C 8 i), .ref (a 0 (nT (C 5 i))), if C 6 i = -1 then .null else .ref (a 4 i)]
def gFv (C : MS) (i : Nat) : List Value := [.int (nI i), .int (C 9 i), .int (C 15 i), .int (C 11 i), .int (C 10 i)]
def sFv (C : MS) (i : Nat) : List Value := [.int (nI i), .int (C 12 i), .int (C 13 i), .int (C 14 i)]
def oFv (a : AD) (C : MS) (i : Nat) : List Value := [.ref (a 2 (nT (C 6 i))), .ref (a 3 (nT (C 7 i)))]
def xFv (a : AD) (C : MS) : List Value := [.ref (a 5 0), .ref (a 5 1), .ref (a 5 2), .ref (a 5 3), .ref (a 5 4), .int (C 16 0), .int (C 17 0)]
def ciOf (k : Nat) : Nat := match k with
  | 0 => 2
  | 1 => 3
  | 2 => 1
  | _ => 5
def fsOf (a : AD) (C : MS) (k i : Nat) : List Value := match k with
  | 0 => hFv C i
  | 1 => lFv a C i
  | 2 => gFv C i
  | _ => sFv C i
theorem ciOf_r (k : Nat) : ciOf k = 1 ∨ ciOf k = 2 ∨ ciOf k = 3 ∨ ciOf k = 5 := by
  unfold ciOf
  split <;> simp
theorem ciOf_inj {k j : Nat} (hk : k < 4) (hj : j < 4) (h : ciOf k = ciOf j) : k = j := by
  have h1 : k = 0 ∨ k = 1 ∨ k = 2 ∨ k = 3 := by omega
  have h2 : j = 0 ∨ j = 1 ∨ j = 2 ∨ j = 3 := by omega
  rcases h1 with rfl | rfl | rfl | rfl <;> rcases h2 with rfl | rfl | rfl | rfl <;> first | rfl | (simp [ciOf] at h)
theorem isEl_ci {k : Nat} {fs : List Value} : isEl (.inr (ciOf k, fs)) := by
  unfold ciOf
  split
  · exact ⟨2, fs, (RX1, TX1, 1), rfl, rfl, by decide +kernel⟩
  · exact ⟨3, fs, (RX2, TX2, 7), rfl, rfl, by decide +kernel⟩
  · exact ⟨1, fs, (RX0, TX0, 5), rfl, rfl, by decide +kernel⟩
  · exact ⟨5, fs, (RX4, TX4, 4), rfl, rfl, by decide +kernel⟩
theorem isEl_6 {fs : List Value} (h : isEl (.inr (6, fs))) : False := by
  obtain ⟨ci, fs', q, e, hc, hk⟩ := h
  cases e
  have e1 : q = (RX5, TX5, 7) := (Option.some.inj hc).symm
  subst e1
  revert hk
  decide +kernel
/-- cells that the class never touches: the reference's, rows of ints and longs -/
def isRO (e : va_E) : Bool := match e with
  | .inr (ci, _) => ci == 7
  | .inl (_, _, .inl _) => true
  | .inl (_, _, .inr (.inl _)) => true
  | _ => false
def Fr (L0 : List Nat) (f0 : Nat → va_E) (L : List Nat) (f : Nat → va_E) : Prop := (∀ q, q ∈ L0 → q ∈ L) ∧ ∀ q, q ∈ L0 → isRO (f0 q) = true → f q = f0 q
theorem Fr.rf {L : List Nat} {f : Nat → va_E} : Fr L f L f := ⟨fun _ h => h, fun _ _ _ => rfl⟩
theorem Fr.trans {L0 L L1 : List Nat} {f0 f f1 : Nat → va_E} (h : Fr L0 f0 L f) (h1 : Fr L f L1 f1) : Fr L0 f0 L1 f1 :=
  ⟨fun q hq => h1.1 q (h.1 q hq), fun q hq hr => by
    have e := h.2 q hq hr
    exact (h1.2 q (h.1 q hq) (by rw [e]; exact hr)).trans e⟩
theorem Fr.up {L0 L : List Nat} {f0 f : Nat → va_E} (h : Fr L0 f0 L f) {p : Nat} {e : va_E} (hp : isRO (f p) = false) : Fr L0 f0 L (va_up f p e) :=
  ⟨h.1, fun q hq hr => by
    have e1 := h.2 q hq hr
    have hqp : q ≠ p := fun z => by
      rw [← z, e1, hr] at hp
      cases hp
    rw [show va_up f p e q = f q by simp [va_up, hqp]]
    exact e1⟩
def elm (a : AD) (P : Nat → Nat) (j i : Nat) : Nat := if j = 4 then a 3 (P i) else a j i
def CA (κ : Kx) (x : Nat) (a : AD) (N P : Nat → Nat) (C : MS) (L : List Nat) (f : Nat → va_E) : Prop :=
  (x ∈ L ∧ f x = .inr (6, xFv a C)) ∧ (∀ k i, k < 4 → i < N k → a k i ∈ L ∧ f (a k i) = .inr (ciOf k, fsOf a C k i)) ∧ (∀ i, i < N 1 → ¬ C 6 i = -1 → a 4 i ∈ L ∧ f (a 4 i) = .inr (4, oFv a C i)) ∧ (∀ k i j, k < 4 → i < N k → j < N k → a k i = a k j → i = j) ∧
  (∀ j, j < 5 → LA κ L f (a 5 j) (a 6 j) (N j) (elm a P j)) ∧ (∀ i j, i < 5 → j < 5 → a 5 i = a 5 j → i = j) ∧ ∀ i j, i < 5 → j < 5 → a 6 i = a 6 j → a 6 i = kTE κ ∨ i = j
def ZC (κ : Kx) (x : Nat) (a : AD) (N P : Nat → Nat) (C : MS) (L0 : List Nat) (f0 : Nat → va_E) (L : List Nat) (f : Nat → va_E) : Prop := CA κ x a N P C L f ∧ Fr L0 f0 L f
/-- what a written field of object (k, i) makes of the state -/
def PutOK (a : AD) (C : MS) (k i : Nat) (C1 : MS) (fs1 : List Value) : Prop := fsOf a C1 k i = fs1 ∧ (∀ k2 i2, k2 < 4 → ¬ (k2 = k ∧ i2 = i) → fsOf a C1 k2 i2 = fsOf a C k2 i2) ∧ xFv a C1 = xFv a C ∧ ∀ j, ¬ C1 6 j = -1 → ¬ C 6 j = -1 ∧ oFv a C1 j = oFv a C j
theorem LA.up {κ : Kx} {L : List Nat} {f : Nat → va_E} {lo e n : Nat} {el : Nat → Nat} (h : LA κ L f lo e n el) {p ci : Nat} {fs fs1 : List Value} (hp : f p = .inr (ci, fs)) (hci : ci ≠ 0) (hE : isEl (.inr (ci, fs)) → isEl (.inr (ci, fs1))) : LA κ L (va_up f p (.inr (ci, fs1))) lo e n el := by
  obtain ⟨⟨h1, mc, h2⟩, h3⟩ := h
  have hlp : lo ≠ p := fun z => by
    rw [z, hp] at h2
    simp only [lC, Sum.inr.injEq, Prod.mk.injEq] at h2
    exact hci h2.1
  refine ⟨⟨h1, mc, by rw [← h2]; simp [va_up, hlp]⟩, ?_⟩
  rcases h3 with h3 | ⟨cap, g, hR, hn, hg⟩
  · exact Or.inl h3
  · refine Or.inr ⟨cap, g, hR.up (fun z => ?_) (fun h => by rw [hp] at h; exact hE h), hn, hg⟩
    have h4 := hR.2.1
    rw [← z, hp] at h4
    cases h4
theorem ZC.put {κ : Kx} {x : Nat} {a : AD} {N P : Nat → Nat} {C : MS} {L0 L : List Nat} {f0 f : Nat → va_E} (h : ZC κ x a N P C L0 f0 L f) {k i : Nat} (hk : k < 4) (hi : i < N k) {C1 : MS} {fs1 : List Value} (ho : PutOK a C k i C1 fs1) : ZC κ x a N P C1 L0 f0 L (va_up f (a k i) (.inr (ciOf k, fs1))) := by
  obtain ⟨⟨⟨h1, h2⟩, h3, h4, h5, h6, h7, h8⟩, hf⟩ := h
  obtain ⟨o1, o2, o3, o4⟩ := ho
  obtain ⟨p1, p2⟩ := h3 k i hk hi
  have hr := ciOf_r k
  have tag : ∀ q ci fs, f q = .inr (ci, fs) → ci ≠ ciOf k → va_up f (a k i) (.inr (ciOf k, fs1)) q = f q := fun q ci fs hq hc => by
    have hne : q ≠ a k i := fun z => by
      rw [z, p2] at hq
      simp only [Sum.inr.injEq, Prod.mk.injEq] at hq
      exact hc hq.1.symm
    simp [va_up, hne]
  refine ⟨⟨⟨h1, ?_⟩, fun k2 i2 hk2 hi2 => ⟨(h3 k2 i2 hk2 hi2).1, ?_⟩, fun j hj hc => ?_, h5, fun j hj => ?_, h7, h8⟩, hf.up (by rw [p2]; show (ciOf k == 7) = false; simp; omega)⟩
  · rw [tag x 6 _ h2 (by omega), o3]
    exact h2
  · by_cases he : k2 = k ∧ i2 = i
    · obtain ⟨rfl, rfl⟩ := he
      rw [o1]
      simp [va_up]
    · rw [o2 k2 i2 hk2 he]
      have hq := (h3 k2 i2 hk2 hi2).2
      by_cases hkk : k2 = k
      · subst hkk
        have hne : a k2 i2 ≠ a k2 i := fun z => he ⟨rfl, h5 k2 i2 i hk2 hi2 hi z⟩
        rw [← hq]
        simp [va_up, hne]
      · rw [tag _ _ _ hq (fun z => hkk (ciOf_inj hk2 hk z))]
        exact hq
  · obtain ⟨q1, q2⟩ := o4 j hc
    obtain ⟨q3, q4⟩ := h4 j hj q1
    refine ⟨q3, ?_⟩
    rw [tag _ 4 _ q4 (by omega), q2]
    exact q4
  · exact (h6 j hj).up p2 (by omega) (fun _ => isEl_ci)
theorem ZC.putX {κ : Kx} {x : Nat} {a : AD} {N P : Nat → Nat} {C : MS} {L0 L : List Nat} {f0 f : Nat → va_E} (h : ZC κ x a N P C L0 f0 L f) {C1 : MS} {fs1 : List Value} (ho : xFv a C1 = fs1) (hc : ∀ k, k < 16 → C1 k = C k) : ZC κ x a N P C1 L0 f0 L (va_up f x (.inr (6, fs1))) := by
  obtain ⟨⟨⟨h1, h2⟩, h3, h4, h5, h6, h7, h8⟩, hf⟩ := h
  have tag : ∀ q ci fs, f q = .inr (ci, fs) → ci ≠ 6 → va_up f x (.inr (6, fs1)) q = f q := fun q ci fs hq hc => by
    have hne : q ≠ x := fun z => by
      rw [z, h2] at hq
      simp only [Sum.inr.injEq, Prod.mk.injEq] at hq
      exact hc hq.1.symm
    simp [va_up, hne]
  have e1 : ∀ k i, k < 4 → fsOf a C1 k i = fsOf a C k i := fun k i hk => by
    have h9 : k = 0 ∨ k = 1 ∨ k = 2 ∨ k = 3 := by omega
    rcases h9 with rfl | rfl | rfl | rfl <;> simp [fsOf, hFv, lFv, gFv, sFv, hc]
  refine ⟨⟨⟨h1, by rw [ho]; simp [va_up]⟩, fun k2 i2 hk2 hi2 => ⟨(h3 k2 i2 hk2 hi2).1, ?_⟩, fun j hj hc6 => ?_, h5, fun j hj => ?_, h7, h8⟩, hf.up (by rw [h2]; rfl)⟩
  · have hr := ciOf_r k2
    rw [tag _ _ _ (h3 k2 i2 hk2 hi2).2 (by omega), e1 k2 i2 hk2]
    exact (h3 k2 i2 hk2 hi2).2
  · rw [hc 6 (by decide)] at hc6
    obtain ⟨q3, q4⟩ := h4 j hj hc6
    refine ⟨q3, ?_⟩
    rw [tag _ 4 _ q4 (by decide), show oFv a C1 j = oFv a C j by simp [oFv, hc]]
    exact q4
  · exact (h6 j hj).up h2 (by decide) (fun h => (isEl_6 h).elim)
theorem ZC.self {κ : Kx} {x : Nat} {a : AD} {N P : Nat → Nat} {C : MS} {L0 L : List Nat} {f0 f : Nat → va_E} (h : ZC κ x a N P C L0 f0 L f) : ZC κ x a N P C L f L f := ⟨h.1, Fr.rf⟩
theorem ZC.trans {κ : Kx} {x : Nat} {a a1 : AD} {N P N1 P1 : Nat → Nat} {C C1 : MS} {L0 L L1 : List Nat} {f0 f f1 : Nat → va_E} (h : ZC κ x a N P C L0 f0 L f) (h1 : ZC κ x a1 N1 P1 C1 L f L1 f1) : ZC κ x a1 N1 P1 C1 L0 f0 L1 f1 := ⟨h1.1, h.2.trans h1.2⟩
theorem ZC.cast {κ : Kx} {x : Nat} {a : AD} {N P : Nat → Nat} {C C1 : MS} {L0 L : List Nat} {f0 f : Nat → va_E} (h : ZC κ x a N P C L0 f0 L f) (e : C = C1) : ZC κ x a N P C1 L0 f0 L f := e ▸ h
/-- numbers of one kind of field -/
theorem put1 (a : AD) (C : MS) (i : Nat) (v : Int32) : PutOK a C 1 i (stM C 2 i v) ((lFv a C i).set 1 (.int v)) ∧ PutOK a C 1 i (stM C 3 i v) ((lFv a C i).set 2 (.int v)) ∧ PutOK a C 1 i (stM C 4 i v) ((lFv a C i).set 3 (.int v)) ∧ PutOK a C 1 i (stM C 8 i v) ((lFv a C i).set 4 (.int v)) := by
  refine ⟨?_, ?_, ?_, ?_⟩ <;>
  · refine ⟨by simp [fsOf, lFv, stM, va_up, upd], fun k2 i2 hk2 hne => ?_, by simp [xFv, stM, va_up], fun j hj => ⟨by simpa [stM, va_up] using hj, by simp [oFv, stM, va_up]⟩⟩
    have h9 : k2 = 0 ∨ k2 = 1 ∨ k2 = 2 ∨ k2 = 3 := by omega
    rcases h9 with rfl | rfl | rfl | rfl
    · simp [fsOf, hFv, stM, va_up]
    · have hi2 : i2 ≠ i := fun z => hne ⟨rfl, z⟩
      simp [fsOf, lFv, stM, va_up, upd, hi2]
    · simp [fsOf, gFv, stM, va_up]
    · simp [fsOf, sFv, stM, va_up]
theorem put1h (a : AD) (C : MS) (i h : Nat) (hh : nT (nI h) = h) : PutOK a C 1 i (stM C 5 i (nI h)) ((lFv a C i).set 5 (.ref (a 0 h))) := by
  refine ⟨by simp [fsOf, lFv, stM, va_up, upd, hh], fun k2 i2 hk2 hne => ?_, by simp [xFv, stM, va_up], fun j hj => ⟨by simpa [stM, va_up] using hj, by simp [oFv, stM, va_up]⟩⟩
  have h9 : k2 = 0 ∨ k2 = 1 ∨ k2 = 2 ∨ k2 = 3 := by omega
  rcases h9 with rfl | rfl | rfl | rfl
  · simp [fsOf, hFv, stM, va_up]
  · have hi2 : i2 ≠ i := fun z => hne ⟨rfl, z⟩
    simp [fsOf, lFv, stM, va_up, upd, hi2]
  · simp [fsOf, gFv, stM, va_up]
  · simp [fsOf, sFv, stM, va_up]
theorem put1n (a : AD) (C : MS) (i : Nat) : PutOK a C 1 i (stM C 6 i (-1)) ((lFv a C i).set 6 .null) := by
  refine ⟨by simp [fsOf, lFv, stM, va_up, upd], fun k2 i2 hk2 hne => ?_, by simp [xFv, stM, va_up], fun j hj => ?_⟩
  · have h9 : k2 = 0 ∨ k2 = 1 ∨ k2 = 2 ∨ k2 = 3 := by omega
    rcases h9 with rfl | rfl | rfl | rfl
    · simp [fsOf, hFv, stM, va_up]
    · have hi2 : i2 ≠ i := fun z => hne ⟨rfl, z⟩
      simp [fsOf, lFv, stM, va_up, upd, hi2]
    · simp [fsOf, gFv, stM, va_up]
    · simp [fsOf, sFv, stM, va_up]
  · by_cases hji : j = i
    · exact absurd (by simp [stM, va_up, upd, hji]) hj
    · rw [show stM C 6 i (-1) 6 j = C 6 j by simp [stM, va_up, upd, hji]] at hj
      exact ⟨hj, by simp [oFv, stM, va_up, upd, hji]⟩
theorem put0 (a : AD) (C : MS) (i : Nat) (v : Int32) : PutOK a C 0 i (stM C 0 i v) ((hFv C i).set 0 (.int v)) := by
  refine ⟨by simp [fsOf, hFv, stM, va_up, upd], fun k2 i2 hk2 hne => ?_, by simp [xFv, stM, va_up], fun j hj => ⟨by simpa [stM, va_up] using hj, by simp [oFv, stM, va_up]⟩⟩
  have h9 : k2 = 0 ∨ k2 = 1 ∨ k2 = 2 ∨ k2 = 3 := by omega
  rcases h9 with rfl | rfl | rfl | rfl
  · have hi2 : i2 ≠ i := fun z => hne ⟨rfl, z⟩
    simp [fsOf, hFv, stM, va_up, upd, hi2]
  · simp [fsOf, lFv, stM, va_up]
  · simp [fsOf, gFv, stM, va_up]
  · simp [fsOf, sFv, stM, va_up]
theorem put2 (a : AD) (C : MS) (i : Nat) (v : Int32) : PutOK a C 2 i (stM C 15 i v) ((gFv C i).set 2 (.int v)) ∧ PutOK a C 2 i (stM C 11 i v) ((gFv C i).set 3 (.int v)) ∧ PutOK a C 2 i (stM C 10 i v) ((gFv C i).set 4 (.int v)) := by
  refine ⟨?_, ?_, ?_⟩ <;>
  · refine ⟨by simp [fsOf, gFv, stM, va_up, upd], fun k2 i2 hk2 hne => ?_, by simp [xFv, stM, va_up], fun j hj => ⟨by simpa [stM, va_up] using hj, by simp [oFv, stM, va_up]⟩⟩
    have h9 : k2 = 0 ∨ k2 = 1 ∨ k2 = 2 ∨ k2 = 3 := by omega
    rcases h9 with rfl | rfl | rfl | rfl
    · simp [fsOf, hFv, stM, va_up]
    · simp [fsOf, lFv, stM, va_up]
    · have hi2 : i2 ≠ i := fun z => hne ⟨rfl, z⟩
      simp [fsOf, gFv, stM, va_up, upd, hi2]
    · simp [fsOf, sFv, stM, va_up]
theorem put3 (a : AD) (C : MS) (i : Nat) (v : Int32) : PutOK a C 3 i (stM C 12 i v) ((sFv C i).set 1 (.int v)) ∧ PutOK a C 3 i (stM C 13 i v) ((sFv C i).set 2 (.int v)) ∧ PutOK a C 3 i (stM C 14 i v) ((sFv C i).set 3 (.int v)) := by
  refine ⟨?_, ?_, ?_⟩ <;>
  · refine ⟨by simp [fsOf, sFv, stM, va_up, upd], fun k2 i2 hk2 hne => ?_, by simp [xFv, stM, va_up], fun j hj => ⟨by simpa [stM, va_up] using hj, by simp [oFv, stM, va_up]⟩⟩
    have h9 : k2 = 0 ∨ k2 = 1 ∨ k2 = 2 ∨ k2 = 3 := by omega
    rcases h9 with rfl | rfl | rfl | rfl
    · simp [fsOf, hFv, stM, va_up]
    · simp [fsOf, lFv, stM, va_up]
    · simp [fsOf, gFv, stM, va_up]
    · have hi2 : i2 ≠ i := fun z => hne ⟨rfl, z⟩
      simp [fsOf, sFv, stM, va_up, upd, hi2]
end
