section
-- ===== PART A: goes FIRST, ahead of the names: the tables' words, and 'selects' of the private methods out of them =====
/-- a private method of a class that the tables say can be made, by its rows of tables_1 -/
def lw_okq (q : MethodName × Nat) : Prop := (q.1.cls ≠ "java/lang/invoke/MethodHandle" ∧ q.1.cls ≠ "java/lang/invoke/VarHandle") ∧ Cond.instantiable q.1.cls q.2 ∈ tables_1 ∧ Cond.privateMethod q.1 ∈ tables_1 ∧ Cond.instanceMethod q.1 ∈ tables_1
theorem lw_p0 : lw_okq (⟨"SampleTracker$Pen", "writeNumber", "(JI)V"⟩, 4) := ⟨⟨by decide +kernel, by decide +kernel⟩, List.mem_of_getElem? (i := 67) (by decide +kernel), List.mem_of_getElem? (i := 92) (by decide +kernel), List.mem_of_getElem? (i := 93) (by decide +kernel)⟩
theorem lw_p1 : lw_okq (⟨"SampleTracker$Pen", "writeByte", "(I)V"⟩, 4) := ⟨⟨by decide +kernel, by decide +kernel⟩, List.mem_of_getElem? (i := 67) (by decide +kernel), List.mem_of_getElem? (i := 101) (by decide +kernel), List.mem_of_getElem? (i := 102) (by decide +kernel)⟩
theorem lw_p2 : lw_okq (⟨"SampleTracker", "refusalOfNewSample", "(ZJ)I"⟩, 4) := ⟨⟨by decide +kernel, by decide +kernel⟩, List.mem_of_getElem? (i := 13) (by decide +kernel), List.mem_of_getElem? (i := 259) (by decide +kernel), List.mem_of_getElem? (i := 260) (by decide +kernel)⟩
theorem lw_p3 : lw_okq (⟨"SampleTracker", "refusalOfWell", "(Z)I"⟩, 4) := ⟨⟨by decide +kernel, by decide +kernel⟩, List.mem_of_getElem? (i := 13) (by decide +kernel), List.mem_of_getElem? (i := 263) (by decide +kernel), List.mem_of_getElem? (i := 264) (by decide +kernel)⟩
theorem lw_p4 : lw_okq (⟨"SampleTracker", "refusalOfRoom", "()I"⟩, 4) := ⟨⟨by decide +kernel, by decide +kernel⟩, List.mem_of_getElem? (i := 13) (by decide +kernel), List.mem_of_getElem? (i := 287) (by decide +kernel), List.mem_of_getElem? (i := 288) (by decide +kernel)⟩
theorem lw_p5 : lw_okq (⟨"SampleTracker", "carryOut", "(I)I"⟩, 4) := ⟨⟨by decide +kernel, by decide +kernel⟩, List.mem_of_getElem? (i := 13) (by decide +kernel), List.mem_of_getElem? (i := 319) (by decide +kernel), List.mem_of_getElem? (i := 320) (by decide +kernel)⟩
theorem lw_p6 : lw_okq (⟨"SampleTracker$Table", "applyRegister", "(LSampleTracker$Entry;)V"⟩, 7) := ⟨⟨by decide +kernel, by decide +kernel⟩, List.mem_of_getElem? (i := 135) (by decide +kernel), List.mem_of_getElem? (i := 352) (by decide +kernel), List.mem_of_getElem? (i := 353) (by decide +kernel)⟩
theorem lw_p7 : lw_okq (⟨"SampleTracker$Table", "remember", "(I)V"⟩, 7) := ⟨⟨by decide +kernel, by decide +kernel⟩, List.mem_of_getElem? (i := 135) (by decide +kernel), List.mem_of_getElem? (i := 356) (by decide +kernel), List.mem_of_getElem? (i := 357) (by decide +kernel)⟩
theorem lw_p8 : lw_okq (⟨"SampleTracker$Table", "addSample", "(IIJ)V"⟩, 7) := ⟨⟨by decide +kernel, by decide +kernel⟩, List.mem_of_getElem? (i := 135) (by decide +kernel), List.mem_of_getElem? (i := 364) (by decide +kernel), List.mem_of_getElem? (i := 365) (by decide +kernel)⟩
theorem lw_p9 : lw_okq (⟨"SampleTracker$Table", "applyAliquot", "(LSampleTracker$Entry;)V"⟩, 7) := ⟨⟨by decide +kernel, by decide +kernel⟩, List.mem_of_getElem? (i := 135) (by decide +kernel), List.mem_of_getElem? (i := 369) (by decide +kernel), List.mem_of_getElem? (i := 370) (by decide +kernel)⟩
theorem lw_p10 : lw_okq (⟨"SampleTracker$Table", "applyMove", "(LSampleTracker$Entry;)V"⟩, 7) := ⟨⟨by decide +kernel, by decide +kernel⟩, List.mem_of_getElem? (i := 135) (by decide +kernel), List.mem_of_getElem? (i := 373) (by decide +kernel), List.mem_of_getElem? (i := 374) (by decide +kernel)⟩
theorem lw_p11 : lw_okq (⟨"SampleTracker$Table", "applyDiscard", "(LSampleTracker$Entry;)V"⟩, 7) := ⟨⟨by decide +kernel, by decide +kernel⟩, List.mem_of_getElem? (i := 135) (by decide +kernel), List.mem_of_getElem? (i := 377) (by decide +kernel), List.mem_of_getElem? (i := 378) (by decide +kernel)⟩
theorem lw_p12 : lw_okq (⟨"SampleTracker$Table", "applyUndo", "()V"⟩, 7) := ⟨⟨by decide +kernel, by decide +kernel⟩, List.mem_of_getElem? (i := 135) (by decide +kernel), List.mem_of_getElem? (i := 381) (by decide +kernel), List.mem_of_getElem? (i := 382) (by decide +kernel)⟩
theorem lw_p13 : lw_okq (⟨"SampleTracker$Table", "applyKept", "(LSampleTracker$Entry;)V"⟩, 7) := ⟨⟨by decide +kernel, by decide +kernel⟩, List.mem_of_getElem? (i := 135) (by decide +kernel), List.mem_of_getElem? (i := 409) (by decide +kernel), List.mem_of_getElem? (i := 410) (by decide +kernel)⟩
theorem lw_p14 : lw_okq (⟨"SampleTracker$Bank", "isClosedRight", "(II)Z"⟩, 1) := ⟨⟨by decide +kernel, by decide +kernel⟩, List.mem_of_getElem? (i := 55) (by decide +kernel), List.mem_of_getElem? (i := 519) (by decide +kernel), List.mem_of_getElem? (i := 520) (by decide +kernel)⟩
theorem lw_p15 : lw_okq (⟨"SampleTracker", "countWithPower", "(I)I"⟩, 4) := ⟨⟨by decide +kernel, by decide +kernel⟩, List.mem_of_getElem? (i := 13) (by decide +kernel), List.mem_of_getElem? (i := 611) (by decide +kernel), List.mem_of_getElem? (i := 612) (by decide +kernel)⟩
def lw_privs_1 : List (MethodName × Nat) := [(⟨"SampleTracker$Pen", "writeNumber", "(JI)V"⟩, 4), (⟨"SampleTracker$Pen", "writeByte", "(I)V"⟩, 4), (⟨"SampleTracker", "refusalOfNewSample", "(ZJ)I"⟩, 4), (⟨"SampleTracker", "refusalOfWell", "(Z)I"⟩, 4), (⟨"SampleTracker", "refusalOfRoom", "()I"⟩, 4), (⟨"SampleTracker", "carryOut", "(I)I"⟩, 4), (⟨"SampleTracker$Table", "applyRegister", "(LSampleTracker$Entry;)V"⟩, 7), (⟨"SampleTracker$Table", "remember", "(I)V"⟩, 7), (⟨"SampleTracker$Table", "addSample", "(IIJ)V"⟩, 7), (⟨"SampleTracker$Table", "applyAliquot", "(LSampleTracker$Entry;)V"⟩, 7), (⟨"SampleTracker$Table", "applyMove", "(LSampleTracker$Entry;)V"⟩, 7), (⟨"SampleTracker$Table", "applyDiscard", "(LSampleTracker$Entry;)V"⟩, 7), (⟨"SampleTracker$Table", "applyUndo", "()V"⟩, 7), (⟨"SampleTracker$Table", "applyKept", "(LSampleTracker$Entry;)V"⟩, 7), (⟨"SampleTracker$Bank", "isClosedRight", "(II)Z"⟩, 1), (⟨"SampleTracker", "countWithPower", "(I)I"⟩, 4)]
theorem lw_r1 : ∀ q ∈ lw_privs_1, lw_okq q := List.forall_mem_cons.mpr ⟨lw_p0, List.forall_mem_cons.mpr ⟨lw_p1, List.forall_mem_cons.mpr ⟨lw_p2, List.forall_mem_cons.mpr ⟨lw_p3, List.forall_mem_cons.mpr ⟨lw_p4, List.forall_mem_cons.mpr ⟨lw_p5, List.forall_mem_cons.mpr ⟨lw_p6, List.forall_mem_cons.mpr ⟨lw_p7, List.forall_mem_cons.mpr ⟨lw_p8, List.forall_mem_cons.mpr ⟨lw_p9, List.forall_mem_cons.mpr ⟨lw_p10, List.forall_mem_cons.mpr ⟨lw_p11, List.forall_mem_cons.mpr ⟨lw_p12, List.forall_mem_cons.mpr ⟨lw_p13, List.forall_mem_cons.mpr ⟨lw_p14, List.forall_mem_cons.mpr ⟨lw_p15, fun _ h => absurd h List.not_mem_nil⟩⟩⟩⟩⟩⟩⟩⟩⟩⟩⟩⟩⟩⟩⟩⟩
theorem lw_p16 : lw_okq (⟨"SampleTrackerModel", "u4", "(I)V"⟩, 20) := ⟨⟨by decide +kernel, by decide +kernel⟩, List.mem_of_getElem? (i := 632) (by decide +kernel), List.mem_of_getElem? (i := 640) (by decide +kernel), List.mem_of_getElem? (i := 641) (by decide +kernel)⟩
theorem lw_p17 : lw_okq (⟨"SampleTrackerModel", "u2", "(I)V"⟩, 20) := ⟨⟨by decide +kernel, by decide +kernel⟩, List.mem_of_getElem? (i := 632) (by decide +kernel), List.mem_of_getElem? (i := 644) (by decide +kernel), List.mem_of_getElem? (i := 645) (by decide +kernel)⟩
theorem lw_p18 : lw_okq (⟨"SampleTrackerModel", "u1", "(I)V"⟩, 20) := ⟨⟨by decide +kernel, by decide +kernel⟩, List.mem_of_getElem? (i := 632) (by decide +kernel), List.mem_of_getElem? (i := 648) (by decide +kernel), List.mem_of_getElem? (i := 649) (by decide +kernel)⟩
theorem lw_p19 : lw_okq (⟨"SampleTrackerModel", "reads", "()V"⟩, 20) := ⟨⟨by decide +kernel, by decide +kernel⟩, List.mem_of_getElem? (i := 632) (by decide +kernel), List.mem_of_getElem? (i := 656) (by decide +kernel), List.mem_of_getElem? (i := 657) (by decide +kernel)⟩
theorem lw_p20 : lw_okq (⟨"SampleTrackerModel", "whole", "(I)I"⟩, 20) := ⟨⟨by decide +kernel, by decide +kernel⟩, List.mem_of_getElem? (i := 632) (by decide +kernel), List.mem_of_getElem? (i := 660) (by decide +kernel), List.mem_of_getElem? (i := 661) (by decide +kernel)⟩
theorem lw_p21 : lw_okq (⟨"SampleTrackerModel", "apply", "([BI)V"⟩, 20) := ⟨⟨by decide +kernel, by decide +kernel⟩, List.mem_of_getElem? (i := 632) (by decide +kernel), List.mem_of_getElem? (i := 667) (by decide +kernel), List.mem_of_getElem? (i := 668) (by decide +kernel)⟩
theorem lw_p22 : lw_okq (⟨"SampleTrackerModel", "comes", "(IIJZ)V"⟩, 20) := ⟨⟨by decide +kernel, by decide +kernel⟩, List.mem_of_getElem? (i := 632) (by decide +kernel), List.mem_of_getElem? (i := 671) (by decide +kernel), List.mem_of_getElem? (i := 672) (by decide +kernel)⟩
theorem lw_p23 : lw_okq (⟨"SampleTrackerModel", "isRight", "(I)Z"⟩, 20) := ⟨⟨by decide +kernel, by decide +kernel⟩, List.mem_of_getElem? (i := 632) (by decide +kernel), List.mem_of_getElem? (i := 743) (by decide +kernel), List.mem_of_getElem? (i := 744) (by decide +kernel)⟩
theorem lw_p24 : lw_okq (⟨"SampleTrackerModel", "generation", "(I)J"⟩, 20) := ⟨⟨by decide +kernel, by decide +kernel⟩, List.mem_of_getElem? (i := 632) (by decide +kernel), List.mem_of_getElem? (i := 747) (by decide +kernel), List.mem_of_getElem? (i := 748) (by decide +kernel)⟩
theorem lw_p25 : lw_okq (⟨"SampleTrackerModel", "liveIn", "(I)I"⟩, 20) := ⟨⟨by decide +kernel, by decide +kernel⟩, List.mem_of_getElem? (i := 632) (by decide +kernel), List.mem_of_getElem? (i := 758) (by decide +kernel), List.mem_of_getElem? (i := 759) (by decide +kernel)⟩
theorem lw_p26 : lw_okq (⟨"SampleTrackerModel", "liveVolume", "()J"⟩, 20) := ⟨⟨by decide +kernel, by decide +kernel⟩, List.mem_of_getElem? (i := 632) (by decide +kernel), List.mem_of_getElem? (i := 762) (by decide +kernel), List.mem_of_getElem? (i := 763) (by decide +kernel)⟩
theorem lw_p27 : lw_okq (⟨"SampleTrackerModel", "hasRoom", "(I)Z"⟩, 20) := ⟨⟨by decide +kernel, by decide +kernel⟩, List.mem_of_getElem? (i := 632) (by decide +kernel), List.mem_of_getElem? (i := 767) (by decide +kernel), List.mem_of_getElem? (i := 768) (by decide +kernel)⟩
theorem lw_p28 : lw_okq (⟨"SampleTrackerModel", "begin", "(I)V"⟩, 20) := ⟨⟨by decide +kernel, by decide +kernel⟩, List.mem_of_getElem? (i := 632) (by decide +kernel), List.mem_of_getElem? (i := 774) (by decide +kernel), List.mem_of_getElem? (i := 775) (by decide +kernel)⟩
theorem lw_p29 : lw_okq (⟨"SampleTrackerModel", "u8", "(J)V"⟩, 20) := ⟨⟨by decide +kernel, by decide +kernel⟩, List.mem_of_getElem? (i := 632) (by decide +kernel), List.mem_of_getElem? (i := 778) (by decide +kernel), List.mem_of_getElem? (i := 779) (by decide +kernel)⟩
theorem lw_p30 : lw_okq (⟨"SampleTrackerModel", "acts", "()Z"⟩, 20) := ⟨⟨by decide +kernel, by decide +kernel⟩, List.mem_of_getElem? (i := 632) (by decide +kernel), List.mem_of_getElem? (i := 782) (by decide +kernel), List.mem_of_getElem? (i := 783) (by decide +kernel)⟩
theorem lw_p31 : lw_okq (⟨"SampleTrackerModel", "checked", "()V"⟩, 20) := ⟨⟨by decide +kernel, by decide +kernel⟩, List.mem_of_getElem? (i := 632) (by decide +kernel), List.mem_of_getElem? (i := 786) (by decide +kernel), List.mem_of_getElem? (i := 787) (by decide +kernel)⟩
def lw_privs_2 : List (MethodName × Nat) := [(⟨"SampleTrackerModel", "u4", "(I)V"⟩, 20), (⟨"SampleTrackerModel", "u2", "(I)V"⟩, 20), (⟨"SampleTrackerModel", "u1", "(I)V"⟩, 20), (⟨"SampleTrackerModel", "reads", "()V"⟩, 20), (⟨"SampleTrackerModel", "whole", "(I)I"⟩, 20), (⟨"SampleTrackerModel", "apply", "([BI)V"⟩, 20), (⟨"SampleTrackerModel", "comes", "(IIJZ)V"⟩, 20), (⟨"SampleTrackerModel", "isRight", "(I)Z"⟩, 20), (⟨"SampleTrackerModel", "generation", "(I)J"⟩, 20), (⟨"SampleTrackerModel", "liveIn", "(I)I"⟩, 20), (⟨"SampleTrackerModel", "liveVolume", "()J"⟩, 20), (⟨"SampleTrackerModel", "hasRoom", "(I)Z"⟩, 20), (⟨"SampleTrackerModel", "begin", "(I)V"⟩, 20), (⟨"SampleTrackerModel", "u8", "(J)V"⟩, 20), (⟨"SampleTrackerModel", "acts", "()Z"⟩, 20), (⟨"SampleTrackerModel", "checked", "()V"⟩, 20)]
theorem lw_r2 : ∀ q ∈ lw_privs_2, lw_okq q := List.forall_mem_cons.mpr ⟨lw_p16, List.forall_mem_cons.mpr ⟨lw_p17, List.forall_mem_cons.mpr ⟨lw_p18, List.forall_mem_cons.mpr ⟨lw_p19, List.forall_mem_cons.mpr ⟨lw_p20, List.forall_mem_cons.mpr ⟨lw_p21, List.forall_mem_cons.mpr ⟨lw_p22, List.forall_mem_cons.mpr ⟨lw_p23, List.forall_mem_cons.mpr ⟨lw_p24, List.forall_mem_cons.mpr ⟨lw_p25, List.forall_mem_cons.mpr ⟨lw_p26, List.forall_mem_cons.mpr ⟨lw_p27, List.forall_mem_cons.mpr ⟨lw_p28, List.forall_mem_cons.mpr ⟨lw_p29, List.forall_mem_cons.mpr ⟨lw_p30, List.forall_mem_cons.mpr ⟨lw_p31, fun _ h => absurd h List.not_mem_nil⟩⟩⟩⟩⟩⟩⟩⟩⟩⟩⟩⟩⟩⟩⟩⟩
theorem lw_p32 : lw_okq (⟨"SampleTrackerModel", "writeRow", "(II)Z"⟩, 20) := ⟨⟨by decide +kernel, by decide +kernel⟩, List.mem_of_getElem? (i := 632) (by decide +kernel), List.mem_of_getElem? (i := 790) (by decide +kernel), List.mem_of_getElem? (i := 791) (by decide +kernel)⟩
theorem lw_p33 : lw_okq (⟨"SampleTrackerModel", "write", "(IIB)Z"⟩, 20) := ⟨⟨by decide +kernel, by decide +kernel⟩, List.mem_of_getElem? (i := 632) (by decide +kernel), List.mem_of_getElem? (i := 794) (by decide +kernel), List.mem_of_getElem? (i := 795) (by decide +kernel)⟩
theorem lw_p34 : lw_okq (⟨"SampleTrackerModel", "fails", "()V"⟩, 20) := ⟨⟨by decide +kernel, by decide +kernel⟩, List.mem_of_getElem? (i := 632) (by decide +kernel), List.mem_of_getElem? (i := 798) (by decide +kernel), List.mem_of_getElem? (i := 799) (by decide +kernel)⟩
theorem lw_p35 : lw_okq (⟨"SampleTrackerModel", "isLive", "(I)Z"⟩, 20) := ⟨⟨by decide +kernel, by decide +kernel⟩, List.mem_of_getElem? (i := 632) (by decide +kernel), List.mem_of_getElem? (i := 806) (by decide +kernel), List.mem_of_getElem? (i := 807) (by decide +kernel)⟩
theorem lw_p36 : lw_okq (⟨"SampleTrackerModel", "isHere", "(I)Z"⟩, 20) := ⟨⟨by decide +kernel, by decide +kernel⟩, List.mem_of_getElem? (i := 632) (by decide +kernel), List.mem_of_getElem? (i := 834) (by decide +kernel), List.mem_of_getElem? (i := 835) (by decide +kernel)⟩
def lw_privs_3 : List (MethodName × Nat) := [(⟨"SampleTrackerModel", "writeRow", "(II)Z"⟩, 20), (⟨"SampleTrackerModel", "write", "(IIB)Z"⟩, 20), (⟨"SampleTrackerModel", "fails", "()V"⟩, 20), (⟨"SampleTrackerModel", "isLive", "(I)Z"⟩, 20), (⟨"SampleTrackerModel", "isHere", "(I)Z"⟩, 20)]
theorem lw_r3 : ∀ q ∈ lw_privs_3, lw_okq q := List.forall_mem_cons.mpr ⟨lw_p32, List.forall_mem_cons.mpr ⟨lw_p33, List.forall_mem_cons.mpr ⟨lw_p34, List.forall_mem_cons.mpr ⟨lw_p35, List.forall_mem_cons.mpr ⟨lw_p36, fun _ h => absurd h List.not_mem_nil⟩⟩⟩⟩⟩
def lw_privs : List (MethodName × Nat) := lw_privs_1 ++ (lw_privs_2 ++ (lw_privs_3))
def lw_tbl : List Cond := k2_sels lw_privs ++ tables_1
theorem lw_privs_ok : ∀ q ∈ lw_privs, lw_okq q := by
  show ∀ q ∈ lw_privs_1 ++ (lw_privs_2 ++ (lw_privs_3)), lw_okq q
  exact List.forall_mem_append.mpr ⟨lw_r1, List.forall_mem_append.mpr ⟨lw_r2, lw_r3⟩⟩
-- ===== end of PART A; then your names; then what follows =====
end
section
/-! ===== BEGIN words of one list among another's, by their places ===== -/
theorem goodIn_r {big : List Cond} (ws : List Cond) (ps : List Nat) (hp : ws = ps.filterMap (fun i => big[i]?)) (h : ws.all goodWord = true) : GoodIn big ws := by
  intro w hw
  have h1 := List.all_eq_true.mp h w hw
  rw [hp] at hw
  obtain ⟨i, -, hi⟩ := List.mem_filterMap.mp hw
  have hm : w ∈ big := by first | exact List.mem_of_getElem? hi | exact List.getElem?_mem hi
  exact ⟨hm, good_of_word h1⟩
theorem goodIn_app {big a b : List Cond} (ha : GoodIn big a) (hb : GoodIn big b) : GoodIn big (a ++ b) := fun w h => (List.mem_append.mp h).elim (ha w) (hb w)
theorem goodIn_ca {big a b : List Cond} {c : Cond} (ha : GoodIn big (c :: a)) (hb : GoodIn big b) : GoodIn big (c :: (a ++ b)) := fun w h => (List.mem_cons.mp h).elim (fun e => ha w (List.mem_cons.mpr (Or.inl e))) (fun h => (List.mem_append.mp h).elim (fun h => ha w (List.mem_cons.mpr (Or.inr h))) (hb w))
theorem goodIn_sub {big ws : List Cond} (hm : ∀ w ∈ ws, w ∈ big) (h : ws.all goodWord = true) : GoodIn big ws := fun w hw => ⟨hm w hw, good_of_word (List.all_eq_true.mp h w hw)⟩
/-! ===== END ===== -/


/-! ===== BEGIN printed: names, fields, word lists, decode rows ===== -/
def RX0 : String := "SampleTracker$Bank"
def TX0 : u_T := fun k => match k with
  | _ => ("SampleTracker$Bank", "bytes", "[B", true)
def tyX0 : Nat → FieldType := fun k => match k with
  | _ => .array .byte
abbrev wsX00 : List Cond := u_ws RX0 TX0 1
theorem nmX0 : ∀ a, a < 1 → ∀ b, b < 1 → a ≠ b → (TX0 a).2.1 ≠ (TX0 b).2.1 := by decide +kernel
theorem tyX0_ok : ∀ k, k < 1 → parseFieldDescriptor (TX0 k).2.2.1 = some (tyX0 k) := by decide +kernel
abbrev cX0_init : ByteArray := prog_2_method_1_code
def yX0_init : MethodName := ⟨RX0, "<init>", "(I)V"⟩
abbrev cX0_size : ByteArray := prog_2_method_2_code
def yX0_size : MethodName := ⟨RX0, "size", "()I"⟩
abbrev cX0_at : ByteArray := prog_2_method_3_code
def yX0_at : MethodName := ⟨RX0, "at", "(I)I"⟩
abbrev cX0_put : ByteArray := prog_2_method_4_code
def yX0_put : MethodName := ⟨RX0, "put", "(II)V"⟩
abbrev cX0_number : ByteArray := prog_2_method_5_code
def yX0_number : MethodName := ⟨RX0, "number", "(II)J"⟩
abbrev cX0_hasRightHead : ByteArray := prog_2_method_6_code
def yX0_hasRightHead : MethodName := ⟨RX0, "hasRightHead", "()Z"⟩
abbrev cX0_wholeRecordAt : ByteArray := prog_2_method_7_code
def yX0_wholeRecordAt : MethodName := ⟨RX0, "wholeRecordAt", "(I)I"⟩
abbrev cX0_isClosedRight : ByteArray := prog_2_method_8_code
def yX0_isClosedRight : MethodName := ⟨RX0, "isClosedRight", "(II)Z"⟩
abbrev cX0_blankFrom : ByteArray := prog_2_method_9_code
def yX0_blankFrom : MethodName := ⟨RX0, "blankFrom", "(I)V"⟩
def RX1 : String := "SampleTracker$Crc"
def TX1 : u_T := fun k => match k with
  | _ => ("", "", "", false)
def tyX1 : Nat → FieldType := fun k => match k with
  | _ => .int
abbrev wsX10 : List Cond := u_ws RX1 TX1 0
theorem nmX1 : ∀ a, a < 0 → ∀ b, b < 0 → a ≠ b → (TX1 a).2.1 ≠ (TX1 b).2.1 := by decide +kernel
theorem tyX1_ok : ∀ k, k < 0 → parseFieldDescriptor (TX1 k).2.2.1 = some (tyX1 k) := by decide +kernel
abbrev cX1_step : ByteArray := prog_3_method_2_code
def yX1_step : MethodName := ⟨RX1, "step", "(II)I"⟩
abbrev cX1_end : ByteArray := prog_3_method_3_code
def yX1_end : MethodName := ⟨RX1, "end", "(I)I"⟩
def RX2 : String := "SampleTracker$Entry"
def TX2 : u_T := fun k => match k with
  | 0 => ("SampleTracker$Entry", "kind", "I", false)
  | 1 => ("SampleTracker$Entry", "sample", "I", false)
  | 2 => ("SampleTracker$Entry", "well", "I", false)
  | _ => ("SampleTracker$Entry", "volume", "J", false)
def tyX2 : Nat → FieldType := fun k => match k with
  | 0 => .int
  | 1 => .int
  | 2 => .int
  | _ => .long
abbrev wsX20 : List Cond := u_ws RX2 TX2 4
theorem nmX2 : ∀ a, a < 4 → ∀ b, b < 4 → a ≠ b → (TX2 a).2.1 ≠ (TX2 b).2.1 := by decide +kernel
theorem tyX2_ok : ∀ k, k < 4 → parseFieldDescriptor (TX2 k).2.2.1 = some (tyX2 k) := by decide +kernel
abbrev cX2_init : ByteArray := prog_4_method_1_code
def yX2_init : MethodName := ⟨RX2, "<init>", "()V"⟩
abbrev cX2_set : ByteArray := prog_4_method_2_code
def yX2_set : MethodName := ⟨RX2, "set", "(IIIJ)V"⟩
abbrev cX2_hasSample : ByteArray := prog_4_method_3_code
def yX2_hasSample : MethodName := ⟨RX2, "hasSample", "()Z"⟩
abbrev cX2_hasWell : ByteArray := prog_4_method_4_code
def yX2_hasWell : MethodName := ⟨RX2, "hasWell", "()Z"⟩
abbrev cX2_hasVolume : ByteArray := prog_4_method_5_code
def yX2_hasVolume : MethodName := ⟨RX2, "hasVolume", "()Z"⟩
abbrev cX2_length : ByteArray := prog_4_method_6_code
def yX2_length : MethodName := ⟨RX2, "length", "()I"⟩
abbrev cX2_readFrom : ByteArray := prog_4_method_7_code
def yX2_readFrom : MethodName := ⟨RX2, "readFrom", "(LSampleTracker$Bank;I)V"⟩
def RX3 : String := "SampleTracker$Journal"
def TX3 : u_T := fun k => match k with
  | 0 => ("SampleTracker$Journal", "power", "LSampleTracker$Power;", true)
  | 1 => ("SampleTracker$Journal", "first", "LSampleTracker$Bank;", true)
  | 2 => ("SampleTracker$Journal", "second", "LSampleTracker$Bank;", true)
  | 3 => ("SampleTracker$Journal", "pen", "LSampleTracker$Pen;", true)
  | 4 => ("SampleTracker$Journal", "inUse", "I", false)
  | _ => ("SampleTracker$Journal", "end", "I", false)
def tyX3 : Nat → FieldType := fun k => match k with
  | 0 => .object "SampleTracker$Power"
  | 1 => .object "SampleTracker$Bank"
  | 2 => .object "SampleTracker$Bank"
  | 3 => .object "SampleTracker$Pen"
  | 4 => .int
  | _ => .int
abbrev wsX30 : List Cond := u_ws RX3 TX3 6
theorem nmX3 : ∀ a, a < 6 → ∀ b, b < 6 → a ≠ b → (TX3 a).2.1 ≠ (TX3 b).2.1 := by decide +kernel
theorem tyX3_ok : ∀ k, k < 6 → parseFieldDescriptor (TX3 k).2.2.1 = some (tyX3 k) := by decide +kernel
abbrev cX3_init : ByteArray := prog_5_method_1_code
def yX3_init : MethodName := ⟨RX3, "<init>", "(ILSampleTracker$Power;)V"⟩
abbrev cX3_bank : ByteArray := prog_5_method_2_code
def yX3_bank : MethodName := ⟨RX3, "bank", "(I)LSampleTracker$Bank;"⟩
abbrev cX3_bankBytes : ByteArray := prog_5_method_3_code
def yX3_bankBytes : MethodName := ⟨RX3, "bankBytes", "()I"⟩
abbrev cX3_bankInUse : ByteArray := prog_5_method_4_code
def yX3_bankInUse : MethodName := ⟨RX3, "bankInUse", "()I"⟩
abbrev cX3_generation : ByteArray := prog_5_method_5_code
def yX3_generation : MethodName := ⟨RX3, "generation", "()I"⟩
abbrev cX3_end : ByteArray := prog_5_method_6_code
def yX3_end : MethodName := ⟨RX3, "end", "()I"⟩
abbrev cX3_hasRoomFor : ByteArray := prog_5_method_7_code
def yX3_hasRoomFor : MethodName := ⟨RX3, "hasRoomFor", "(LSampleTracker$Entry;)Z"⟩
abbrev cX3_append : ByteArray := prog_5_method_8_code
def yX3_append : MethodName := ⟨RX3, "append", "(LSampleTracker$Entry;)Z"⟩
abbrev cX3_otherBankHolds : ByteArray := prog_5_method_9_code
def yX3_otherBankHolds : MethodName := ⟨RX3, "otherBankHolds", "(I)Z"⟩
abbrev cX3_writeAnew : ByteArray := prog_5_method_10_code
def yX3_writeAnew : MethodName := ⟨RX3, "writeAnew", "(LSampleTracker$Table;LSampleTracker$Entry;)Z"⟩
abbrev cX3_chooseBank : ByteArray := prog_5_method_11_code
def yX3_chooseBank : MethodName := ⟨RX3, "chooseBank", "()V"⟩
abbrev cX3_readNext : ByteArray := prog_5_method_12_code
def yX3_readNext : MethodName := ⟨RX3, "readNext", "(LSampleTracker$Entry;)Z"⟩
abbrev cX3_blankTheRest : ByteArray := prog_5_method_13_code
def yX3_blankTheRest : MethodName := ⟨RX3, "blankTheRest", "()V"⟩
def RX4 : String := "SampleTracker$Past"
def TX4 : u_T := fun k => match k with
  | 0 => ("SampleTracker$Past", "samples", "[I", true)
  | 1 => ("SampleTracker$Past", "lost", "[J", true)
  | 2 => ("SampleTracker$Past", "touched", "[I", true)
  | 3 => ("SampleTracker$Past", "wells", "[I", true)
  | 4 => ("SampleTracker$Past", "volumes", "[J", true)
  | _ => ("SampleTracker$Past", "size", "I", false)
def tyX4 : Nat → FieldType := fun k => match k with
  | 0 => .array .int
  | 1 => .array .long
  | 2 => .array .int
  | 3 => .array .int
  | 4 => .array .long
  | _ => .int
abbrev wsX40 : List Cond := u_ws RX4 TX4 6
theorem nmX4 : ∀ a, a < 6 → ∀ b, b < 6 → a ≠ b → (TX4 a).2.1 ≠ (TX4 b).2.1 := by decide +kernel
theorem tyX4_ok : ∀ k, k < 6 → parseFieldDescriptor (TX4 k).2.2.1 = some (tyX4 k) := by decide +kernel
abbrev cX4_init : ByteArray := prog_6_method_1_code
def yX4_init : MethodName := ⟨RX4, "<init>", "()V"⟩
abbrev cX4_size : ByteArray := prog_6_method_2_code
def yX4_size : MethodName := ⟨RX4, "size", "()I"⟩
abbrev cX4_forget : ByteArray := prog_6_method_3_code
def yX4_forget : MethodName := ⟨RX4, "forget", "()V"⟩
abbrev cX4_add : ByteArray := prog_6_method_4_code
def yX4_add : MethodName := ⟨RX4, "add", "(IJIIJ)V"⟩
abbrev cX4_stepBack : ByteArray := prog_6_method_5_code
def yX4_stepBack : MethodName := ⟨RX4, "stepBack", "()Z"⟩
abbrev cX4_samplesBefore : ByteArray := prog_6_method_6_code
def yX4_samplesBefore : MethodName := ⟨RX4, "samplesBefore", "()I"⟩
abbrev cX4_lostBefore : ByteArray := prog_6_method_7_code
def yX4_lostBefore : MethodName := ⟨RX4, "lostBefore", "()J"⟩
abbrev cX4_touched : ByteArray := prog_6_method_8_code
def yX4_touched : MethodName := ⟨RX4, "touched", "()I"⟩
abbrev cX4_wellBefore : ByteArray := prog_6_method_9_code
def yX4_wellBefore : MethodName := ⟨RX4, "wellBefore", "()I"⟩
abbrev cX4_volumeBefore : ByteArray := prog_6_method_10_code
def yX4_volumeBefore : MethodName := ⟨RX4, "volumeBefore", "()J"⟩
def RX5 : String := "SampleTracker$Pen"
def TX5 : u_T := fun k => match k with
  | 0 => ("SampleTracker$Pen", "power", "LSampleTracker$Power;", true)
  | 1 => ("SampleTracker$Pen", "bank", "LSampleTracker$Bank;", false)
  | 2 => ("SampleTracker$Pen", "position", "I", false)
  | _ => ("SampleTracker$Pen", "crc", "I", false)
def tyX5 : Nat → FieldType := fun k => match k with
  | 0 => .object "SampleTracker$Power"
  | 1 => .object "SampleTracker$Bank"
  | 2 => .int
  | _ => .int
abbrev wsX50 : List Cond := u_ws RX5 TX5 4
theorem nmX5 : ∀ a, a < 4 → ∀ b, b < 4 → a ≠ b → (TX5 a).2.1 ≠ (TX5 b).2.1 := by decide +kernel
theorem tyX5_ok : ∀ k, k < 4 → parseFieldDescriptor (TX5 k).2.2.1 = some (tyX5 k) := by decide +kernel
abbrev cX5_init : ByteArray := prog_7_method_1_code
def yX5_init : MethodName := ⟨RX5, "<init>", "(LSampleTracker$Power;LSampleTracker$Bank;)V"⟩
abbrev cX5_position : ByteArray := prog_7_method_2_code
def yX5_position : MethodName := ⟨RX5, "position", "()I"⟩
abbrev cX5_goTo : ByteArray := prog_7_method_3_code
def yX5_goTo : MethodName := ⟨RX5, "goTo", "(LSampleTracker$Bank;I)V"⟩
abbrev cX5_writeZeros : ByteArray := prog_7_method_4_code
def yX5_writeZeros : MethodName := ⟨RX5, "writeZeros", "(I)V"⟩
abbrev cX5_writeHead : ByteArray := prog_7_method_5_code
def yX5_writeHead : MethodName := ⟨RX5, "writeHead", "(I)V"⟩
abbrev cX5_writeRecord : ByteArray := prog_7_method_6_code
def yX5_writeRecord : MethodName := ⟨RX5, "writeRecord", "(LSampleTracker$Entry;)V"⟩
abbrev cX5_writeNumber : ByteArray := prog_7_method_7_code
def yX5_writeNumber : MethodName := ⟨RX5, "writeNumber", "(JI)V"⟩
abbrev cX5_writeByte : ByteArray := prog_7_method_8_code
def yX5_writeByte : MethodName := ⟨RX5, "writeByte", "(I)V"⟩
def RX6 : String := "SampleTracker$Power"
def TX6 : u_T := fun k => match k with
  | 0 => ("SampleTracker$Power", "up", "Z", false)
  | 1 => ("SampleTracker$Power", "cutWaits", "Z", false)
  | 2 => ("SampleTracker$Power", "bytesLeft", "I", false)
  | 3 => ("SampleTracker$Power", "written", "I", false)
  | _ => ("SampleTracker$Power", "failed", "I", false)
def tyX6 : Nat → FieldType := fun k => match k with
  | 0 => .boolean
  | 1 => .boolean
  | 2 => .int
  | 3 => .int
  | _ => .int
abbrev wsX60 : List Cond := u_ws RX6 TX6 5
theorem nmX6 : ∀ a, a < 5 → ∀ b, b < 5 → a ≠ b → (TX6 a).2.1 ≠ (TX6 b).2.1 := by decide +kernel
theorem tyX6_ok : ∀ k, k < 5 → parseFieldDescriptor (TX6 k).2.2.1 = some (tyX6 k) := by decide +kernel
abbrev cX6_init : ByteArray := prog_8_method_1_code
def yX6_init : MethodName := ⟨RX6, "<init>", "()V"⟩
abbrev cX6_isUp : ByteArray := prog_8_method_2_code
def yX6_isUp : MethodName := ⟨RX6, "isUp", "()Z"⟩
abbrev cX6_bytesWritten : ByteArray := prog_8_method_3_code
def yX6_bytesWritten : MethodName := ⟨RX6, "bytesWritten", "()I"⟩
abbrev cX6_failures : ByteArray := prog_8_method_4_code
def yX6_failures : MethodName := ⟨RX6, "failures", "()I"⟩
abbrev cX6_failBehind : ByteArray := prog_8_method_5_code
def yX6_failBehind : MethodName := ⟨RX6, "failBehind", "(I)V"⟩
abbrev cX6_restore : ByteArray := prog_8_method_6_code
def yX6_restore : MethodName := ⟨RX6, "restore", "()V"⟩
abbrev cX6_letByteThrough : ByteArray := prog_8_method_7_code
def yX6_letByteThrough : MethodName := ⟨RX6, "letByteThrough", "()Z"⟩
def RX7 : String := "SampleTracker$Table"
def TX7 : u_T := fun k => match k with
  | 0 => ("SampleTracker$Table", "parents", "[I", true)
  | 1 => ("SampleTracker$Table", "wells", "[I", true)
  | 2 => ("SampleTracker$Table", "volumes", "[J", true)
  | 3 => ("SampleTracker$Table", "inFamily", "[Z", true)
  | 4 => ("SampleTracker$Table", "past", "LSampleTracker$Past;", true)
  | 5 => ("SampleTracker$Table", "samples", "I", false)
  | _ => ("SampleTracker$Table", "lost", "J", false)
def tyX7 : Nat → FieldType := fun k => match k with
  | 0 => .array .int
  | 1 => .array .int
  | 2 => .array .long
  | 3 => .array .boolean
  | 4 => .object "SampleTracker$Past"
  | 5 => .int
  | _ => .long
abbrev wsX70 : List Cond := u_ws RX7 TX7 7
theorem nmX7 : ∀ a, a < 7 → ∀ b, b < 7 → a ≠ b → (TX7 a).2.1 ≠ (TX7 b).2.1 := by decide +kernel
theorem tyX7_ok : ∀ k, k < 7 → parseFieldDescriptor (TX7 k).2.2.1 = some (tyX7 k) := by decide +kernel
abbrev cX7_init : ByteArray := prog_9_method_1_code
def yX7_init : MethodName := ⟨RX7, "<init>", "()V"⟩
abbrev cX7_sampleCount : ByteArray := prog_9_method_2_code
def yX7_sampleCount : MethodName := ⟨RX7, "sampleCount", "()I"⟩
abbrev cX7_isFull : ByteArray := prog_9_method_3_code
def yX7_isFull : MethodName := ⟨RX7, "isFull", "()Z"⟩
abbrev cX7_isSample : ByteArray := prog_9_method_4_code
def yX7_isSample : MethodName := ⟨RX7, "isSample", "(I)Z"⟩
abbrev cX7_isLive : ByteArray := prog_9_method_5_code
def yX7_isLive : MethodName := ⟨RX7, "isLive", "(I)Z"⟩
abbrev cX7_parentOf : ByteArray := prog_9_method_6_code
def yX7_parentOf : MethodName := ⟨RX7, "parentOf", "(I)I"⟩
abbrev cX7_wellOf : ByteArray := prog_9_method_7_code
def yX7_wellOf : MethodName := ⟨RX7, "wellOf", "(I)I"⟩
abbrev cX7_volumeOf : ByteArray := prog_9_method_8_code
def yX7_volumeOf : MethodName := ⟨RX7, "volumeOf", "(I)J"⟩
abbrev cX7_sampleIn : ByteArray := prog_9_method_9_code
def yX7_sampleIn : MethodName := ⟨RX7, "sampleIn", "(I)I"⟩
abbrev cX7_liveCount : ByteArray := prog_9_method_10_code
def yX7_liveCount : MethodName := ⟨RX7, "liveCount", "()I"⟩
abbrev cX7_childrenOf : ByteArray := prog_9_method_11_code
def yX7_childrenOf : MethodName := ⟨RX7, "childrenOf", "(I)I"⟩
abbrev cX7_stepsToOrigin : ByteArray := prog_9_method_12_code
def yX7_stepsToOrigin : MethodName := ⟨RX7, "stepsToOrigin", "(I)I"⟩
abbrev cX7_originOf : ByteArray := prog_9_method_13_code
def yX7_originOf : MethodName := ⟨RX7, "originOf", "(I)I"⟩
abbrev cX7_liveVolume : ByteArray := prog_9_method_14_code
def yX7_liveVolume : MethodName := ⟨RX7, "liveVolume", "()J"⟩
abbrev cX7_lostVolume : ByteArray := prog_9_method_15_code
def yX7_lostVolume : MethodName := ⟨RX7, "lostVolume", "()J"⟩
abbrev cX7_volumeStillAllowed : ByteArray := prog_9_method_16_code
def yX7_volumeStillAllowed : MethodName := ⟨RX7, "volumeStillAllowed", "()J"⟩
abbrev cX7_volumeOfFamily : ByteArray := prog_9_method_17_code
def yX7_volumeOfFamily : MethodName := ⟨RX7, "volumeOfFamily", "(I)J"⟩
abbrev cX7_pastActs : ByteArray := prog_9_method_18_code
def yX7_pastActs : MethodName := ⟨RX7, "pastActs", "()I"⟩
abbrev cX7_forgetPast : ByteArray := prog_9_method_19_code
def yX7_forgetPast : MethodName := ⟨RX7, "forgetPast", "()V"⟩
abbrev cX7_makeEmpty : ByteArray := prog_9_method_20_code
def yX7_makeEmpty : MethodName := ⟨RX7, "makeEmpty", "()V"⟩
abbrev cX7_apply : ByteArray := prog_9_method_21_code
def yX7_apply : MethodName := ⟨RX7, "apply", "(LSampleTracker$Entry;)V"⟩
abbrev cX7_applyRegister : ByteArray := prog_9_method_22_code
def yX7_applyRegister : MethodName := ⟨RX7, "applyRegister", "(LSampleTracker$Entry;)V"⟩
abbrev cX7_applyAliquot : ByteArray := prog_9_method_23_code
def yX7_applyAliquot : MethodName := ⟨RX7, "applyAliquot", "(LSampleTracker$Entry;)V"⟩
abbrev cX7_applyMove : ByteArray := prog_9_method_24_code
def yX7_applyMove : MethodName := ⟨RX7, "applyMove", "(LSampleTracker$Entry;)V"⟩
abbrev cX7_applyDiscard : ByteArray := prog_9_method_25_code
def yX7_applyDiscard : MethodName := ⟨RX7, "applyDiscard", "(LSampleTracker$Entry;)V"⟩
abbrev cX7_applyKept : ByteArray := prog_9_method_26_code
def yX7_applyKept : MethodName := ⟨RX7, "applyKept", "(LSampleTracker$Entry;)V"⟩
abbrev cX7_applyUndo : ByteArray := prog_9_method_27_code
def yX7_applyUndo : MethodName := ⟨RX7, "applyUndo", "()V"⟩
abbrev cX7_remember : ByteArray := prog_9_method_28_code
def yX7_remember : MethodName := ⟨RX7, "remember", "(I)V"⟩
abbrev cX7_addSample : ByteArray := prog_9_method_29_code
def yX7_addSample : MethodName := ⟨RX7, "addSample", "(IIJ)V"⟩
def RX8 : String := "SampleTracker"
def TX8 : u_T := fun k => match k with
  | 0 => ("SampleTracker", "power", "LSampleTracker$Power;", true)
  | 1 => ("SampleTracker", "journal", "LSampleTracker$Journal;", true)
  | 2 => ("SampleTracker", "table", "LSampleTracker$Table;", true)
  | _ => ("SampleTracker", "entry", "LSampleTracker$Entry;", true)
def tyX8 : Nat → FieldType := fun k => match k with
  | 0 => .object "SampleTracker$Power"
  | 1 => .object "SampleTracker$Journal"
  | 2 => .object "SampleTracker$Table"
  | _ => .object "SampleTracker$Entry"
abbrev wsX80 : List Cond := u_ws RX8 TX8 4
theorem nmX8 : ∀ a, a < 4 → ∀ b, b < 4 → a ≠ b → (TX8 a).2.1 ≠ (TX8 b).2.1 := by decide +kernel
theorem tyX8_ok : ∀ k, k < 4 → parseFieldDescriptor (TX8 k).2.2.1 = some (tyX8 k) := by decide +kernel
abbrev cX8_init : ByteArray := prog_1_method_1_code
def yX8_init : MethodName := ⟨RX8, "<init>", "(I)V"⟩
abbrev cX8_register : ByteArray := prog_1_method_2_code
def yX8_register : MethodName := ⟨RX8, "register", "(IJ)I"⟩
abbrev cX8_aliquot : ByteArray := prog_1_method_3_code
def yX8_aliquot : MethodName := ⟨RX8, "aliquot", "(IIJ)I"⟩
abbrev cX8_move : ByteArray := prog_1_method_4_code
def yX8_move : MethodName := ⟨RX8, "move", "(II)I"⟩
abbrev cX8_discard : ByteArray := prog_1_method_5_code
def yX8_discard : MethodName := ⟨RX8, "discard", "(I)I"⟩
abbrev cX8_undo : ByteArray := prog_1_method_6_code
def yX8_undo : MethodName := ⟨RX8, "undo", "()I"⟩
abbrev cX8_compact : ByteArray := prog_1_method_7_code
def yX8_compact : MethodName := ⟨RX8, "compact", "()I"⟩
abbrev cX8_cut : ByteArray := prog_1_method_8_code
def yX8_cut : MethodName := ⟨RX8, "cut", "(I)I"⟩
abbrev cX8_recover : ByteArray := prog_1_method_9_code
def yX8_recover : MethodName := ⟨RX8, "recover", "()I"⟩
abbrev cX8_octet : ByteArray := prog_1_method_10_code
def yX8_octet : MethodName := ⟨RX8, "octet", "(II)I"⟩
abbrev cX8_sample : ByteArray := prog_1_method_11_code
def yX8_sample : MethodName := ⟨RX8, "sample", "(II)I"⟩
abbrev cX8_volume : ByteArray := prog_1_method_12_code
def yX8_volume : MethodName := ⟨RX8, "volume", "(I)J"⟩
abbrev cX8_well : ByteArray := prog_1_method_13_code
def yX8_well : MethodName := ⟨RX8, "well", "(I)I"⟩
abbrev cX8_total : ByteArray := prog_1_method_14_code
def yX8_total : MethodName := ⟨RX8, "total", "(II)J"⟩
abbrev cX8_count : ByteArray := prog_1_method_15_code
def yX8_count : MethodName := ⟨RX8, "count", "(I)I"⟩
abbrev cX8_countWithPower : ByteArray := prog_1_method_16_code
def yX8_countWithPower : MethodName := ⟨RX8, "countWithPower", "(I)I"⟩
abbrev cX8_refusalOfNewSample : ByteArray := prog_1_method_17_code
def yX8_refusalOfNewSample : MethodName := ⟨RX8, "refusalOfNewSample", "(ZJ)I"⟩
abbrev cX8_refusalOfWell : ByteArray := prog_1_method_18_code
def yX8_refusalOfWell : MethodName := ⟨RX8, "refusalOfWell", "(Z)I"⟩
abbrev cX8_refusalOfRoom : ByteArray := prog_1_method_19_code
def yX8_refusalOfRoom : MethodName := ⟨RX8, "refusalOfRoom", "()I"⟩
abbrev cX8_carryOut : ByteArray := prog_1_method_20_code
def yX8_carryOut : MethodName := ⟨RX8, "carryOut", "(I)I"⟩
abbrev cX8_isWell : ByteArray := prog_1_method_21_code
def yX8_isWell : MethodName := ⟨RX8, "isWell", "(I)Z"⟩
def RX9 : String := "SampleTrackerModel"
def TX9 : u_T := fun k => match k with
  | 0 => ("SampleTrackerModel", "thrown", "I", false)
  | 1 => ("SampleTrackerModel", "bytes", "I", true)
  | 2 => ("SampleTrackerModel", "bank", "[[B", true)
  | 3 => ("SampleTrackerModel", "use", "I", false)
  | 4 => ("SampleTrackerModel", "end", "I", false)
  | 5 => ("SampleTrackerModel", "records", "I", false)
  | 6 => ("SampleTrackerModel", "isDown", "Z", false)
  | 7 => ("SampleTrackerModel", "left", "I", false)
  | 8 => ("SampleTrackerModel", "written", "I", false)
  | 9 => ("SampleTrackerModel", "failures", "I", false)
  | 10 => ("SampleTrackerModel", "parent", "[I", true)
  | 11 => ("SampleTrackerModel", "well", "[I", true)
  | 12 => ("SampleTrackerModel", "live", "[Z", true)
  | 13 => ("SampleTrackerModel", "volume", "[J", true)
  | 14 => ("SampleTrackerModel", "samples", "I", false)
  | 15 => ("SampleTrackerModel", "undoable", "I", false)
  | 16 => ("SampleTrackerModel", "lost", "J", false)
  | 17 => ("SampleTrackerModel", "row", "[B", true)
  | 18 => ("SampleTrackerModel", "size", "I", false)
  | _ => ("SampleTrackerModel", "places", "[I", true)
def tyX9 : Nat → FieldType := fun k => match k with
  | 0 => .int
  | 1 => .int
  | 2 => .array (.array .byte)
  | 3 => .int
  | 4 => .int
  | 5 => .int
  | 6 => .boolean
  | 7 => .int
  | 8 => .int
  | 9 => .int
  | 10 => .array .int
  | 11 => .array .int
  | 12 => .array .boolean
  | 13 => .array .long
  | 14 => .int
  | 15 => .int
  | 16 => .long
  | 17 => .array .byte
  | 18 => .int
  | _ => .array .int
abbrev wsX90 : List Cond := u_ws RX9 TX9 20
theorem nmX9 : ∀ a, a < 20 → ∀ b, b < 20 → a ≠ b → (TX9 a).2.1 ≠ (TX9 b).2.1 := by decide +kernel
theorem tyX9_ok : ∀ k, k < 20 → parseFieldDescriptor (TX9 k).2.2.1 = some (tyX9 k) := by decide +kernel
abbrev cX9_init : ByteArray := prog_11_method_1_code
def yX9_init : MethodName := ⟨RX9, "<init>", "(I)V"⟩
abbrev cX9_u1 : ByteArray := prog_11_method_3_code
def yX9_u1 : MethodName := ⟨RX9, "u1", "(I)V"⟩
abbrev cX9_u2 : ByteArray := prog_11_method_4_code
def yX9_u2 : MethodName := ⟨RX9, "u2", "(I)V"⟩
abbrev cX9_u4 : ByteArray := prog_11_method_5_code
def yX9_u4 : MethodName := ⟨RX9, "u4", "(I)V"⟩
abbrev cX9_u8 : ByteArray := prog_11_method_6_code
def yX9_u8 : MethodName := ⟨RX9, "u8", "(J)V"⟩
abbrev cX9_crc : ByteArray := prog_11_method_7_code
def yX9_crc : MethodName := ⟨RX9, "crc", "([BII)I"⟩
abbrev cX9_take : ByteArray := prog_11_method_8_code
def yX9_take : MethodName := ⟨RX9, "take", "([BII)J"⟩
abbrev cX9_lengthOf : ByteArray := prog_11_method_9_code
def yX9_lengthOf : MethodName := ⟨RX9, "lengthOf", "(I)I"⟩
abbrev cX9_begin : ByteArray := prog_11_method_10_code
def yX9_begin : MethodName := ⟨RX9, "begin", "(I)V"⟩
abbrev cX9_checked : ByteArray := prog_11_method_11_code
def yX9_checked : MethodName := ⟨RX9, "checked", "()V"⟩
abbrev cX9_write : ByteArray := prog_11_method_12_code
def yX9_write : MethodName := ⟨RX9, "write", "(IIB)Z"⟩
abbrev cX9_fails : ByteArray := prog_11_method_13_code
def yX9_fails : MethodName := ⟨RX9, "fails", "()V"⟩
abbrev cX9_writeRow : ByteArray := prog_11_method_14_code
def yX9_writeRow : MethodName := ⟨RX9, "writeRow", "(II)Z"⟩
abbrev cX9_cut : ByteArray := prog_11_method_15_code
def yX9_cut : MethodName := ⟨RX9, "cut", "(I)I"⟩
abbrev cX9_isRight : ByteArray := prog_11_method_16_code
def yX9_isRight : MethodName := ⟨RX9, "isRight", "(I)Z"⟩
abbrev cX9_generation : ByteArray := prog_11_method_17_code
def yX9_generation : MethodName := ⟨RX9, "generation", "(I)J"⟩
abbrev cX9_recover : ByteArray := prog_11_method_18_code
def yX9_recover : MethodName := ⟨RX9, "recover", "()I"⟩
abbrev cX9_whole : ByteArray := prog_11_method_19_code
def yX9_whole : MethodName := ⟨RX9, "whole", "(I)I"⟩
abbrev cX9_reads : ByteArray := prog_11_method_20_code
def yX9_reads : MethodName := ⟨RX9, "reads", "()V"⟩
abbrev cX9_comes : ByteArray := prog_11_method_21_code
def yX9_comes : MethodName := ⟨RX9, "comes", "(IIJZ)V"⟩
abbrev cX9_apply : ByteArray := prog_11_method_22_code
def yX9_apply : MethodName := ⟨RX9, "apply", "([BI)V"⟩
abbrev cX9_liveIn : ByteArray := prog_11_method_23_code
def yX9_liveIn : MethodName := ⟨RX9, "liveIn", "(I)I"⟩
abbrev cX9_isLive : ByteArray := prog_11_method_24_code
def yX9_isLive : MethodName := ⟨RX9, "isLive", "(I)Z"⟩
abbrev cX9_isWell : ByteArray := prog_11_method_25_code
def yX9_isWell : MethodName := ⟨RX9, "isWell", "(I)Z"⟩
abbrev cX9_liveVolume : ByteArray := prog_11_method_26_code
def yX9_liveVolume : MethodName := ⟨RX9, "liveVolume", "()J"⟩
abbrev cX9_hasRoom : ByteArray := prog_11_method_27_code
def yX9_hasRoom : MethodName := ⟨RX9, "hasRoom", "(I)Z"⟩
abbrev cX9_acts : ByteArray := prog_11_method_28_code
def yX9_acts : MethodName := ⟨RX9, "acts", "()Z"⟩
abbrev cX9_register : ByteArray := prog_11_method_29_code
def yX9_register : MethodName := ⟨RX9, "register", "(IJ)I"⟩
abbrev cX9_aliquot : ByteArray := prog_11_method_30_code
def yX9_aliquot : MethodName := ⟨RX9, "aliquot", "(IIJ)I"⟩
abbrev cX9_move : ByteArray := prog_11_method_31_code
def yX9_move : MethodName := ⟨RX9, "move", "(II)I"⟩
abbrev cX9_discard : ByteArray := prog_11_method_32_code
def yX9_discard : MethodName := ⟨RX9, "discard", "(I)I"⟩
abbrev cX9_undo : ByteArray := prog_11_method_33_code
def yX9_undo : MethodName := ⟨RX9, "undo", "()I"⟩
abbrev cX9_compact : ByteArray := prog_11_method_34_code
def yX9_compact : MethodName := ⟨RX9, "compact", "()I"⟩
abbrev cX9_octet : ByteArray := prog_11_method_35_code
def yX9_octet : MethodName := ⟨RX9, "octet", "(II)I"⟩
abbrev cX9_isHere : ByteArray := prog_11_method_36_code
def yX9_isHere : MethodName := ⟨RX9, "isHere", "(I)Z"⟩
abbrev cX9_sample : ByteArray := prog_11_method_37_code
def yX9_sample : MethodName := ⟨RX9, "sample", "(II)I"⟩
abbrev cX9_volume : ByteArray := prog_11_method_38_code
def yX9_volume : MethodName := ⟨RX9, "volume", "(I)J"⟩
abbrev cX9_well : ByteArray := prog_11_method_39_code
def yX9_well : MethodName := ⟨RX9, "well", "(I)I"⟩
abbrev cX9_total : ByteArray := prog_11_method_40_code
def yX9_total : MethodName := ⟨RX9, "total", "(II)J"⟩
abbrev cX9_count : ByteArray := prog_11_method_41_code
def yX9_count : MethodName := ⟨RX9, "count", "(I)I"⟩
def RJ9 : String := "java/lang/Math"
def TJ9 : u_T := fun k => match k with
  | _ => ("", "", "", false)
def tyJ9 : Nat → FieldType := fun k => match k with
  | _ => .int
abbrev wsJ90 : List Cond := u_ws RJ9 TJ9 0
theorem nmJ9 : ∀ a, a < 0 → ∀ b, b < 0 → a ≠ b → (TJ9 a).2.1 ≠ (TJ9 b).2.1 := by decide +kernel
theorem tyJ9_ok : ∀ k, k < 0 → parseFieldDescriptor (TJ9 k).2.2.1 = some (tyJ9 k) := by decide +kernel
abbrev cJ9_max_7cf53 : ByteArray := prog_12_method_65_code
def yJ9_max_7cf53 : MethodName := ⟨RJ9, "max", "(II)I"⟩
abbrev cJ9_min_7cf53 : ByteArray := prog_12_method_69_code
def yJ9_min_7cf53 : MethodName := ⟨RJ9, "min", "(II)I"⟩
def RL : String := "SampleTrackerLaw"
abbrev cL_cell : ByteArray := method_2_code
def yL_cell : MethodName := ⟨RL, "cell", "([II)I"⟩
abbrev cL_law : ByteArray := code
def yL_law : MethodName := ⟨RL, "law", "([I)Z"⟩
def wsX0_init : List Cond := .code yX0_init cX0_init 2 none :: ([.methodLink RX0 3 objectInit, .instanceMethod objectInit, .code objectInit ⟨#[0xb1]⟩ 1 none, .methodLink RX0 9 Lib.Math.max.name, .static Lib.Math.max.name, .initialized "java/lang/Math", .code Lib.Math.max.name Lib.Math.max.code 2 (some .int), .arrayClass .byte, .fieldLink RX0 15 "SampleTracker$Bank" "bytes" "[B"] ++ wsX00)
def wsX0_size : List Cond := .code yX0_size cX0_size 1 (some .int) :: ([.fieldLink RX0 15 "SampleTracker$Bank" "bytes" "[B"] ++ wsX00)
def wsX0_at : List Cond := .code yX0_at cX0_at 2 (some .int) :: ([.fieldLink RX0 15 "SampleTracker$Bank" "bytes" "[B"] ++ wsX00)
def wsX0_put : List Cond := .code yX0_put cX0_put 3 none :: ([.fieldLink RX0 15 "SampleTracker$Bank" "bytes" "[B"] ++ wsX00)
def wsX0_number : List Cond := .code yX0_number cX0_number 6 (some .long) :: ([.methodLink RX0 21 yX0_at, .instanceMethod yX0_at, .selects RX0 yX0_at yX0_at, .initialized RX0, .code yX0_at cX0_at 2 (some .int), .fieldLink RX0 15 "SampleTracker$Bank" "bytes" "[B"] ++ wsX00)
def wsX1_step : List Cond := .code yX1_step cX1_step 3 (some .int) :: ([.fieldLink RX1 7 "SampleTracker$Crc" "OF_HALF_BYTE" "[I"])
def wsX1_end : List Cond := .code yX1_end cX1_end 1 (some .int) :: ([])
def wsX0_isClosedRight : List Cond := .code yX0_isClosedRight cX0_isClosedRight 6 (some .boolean) :: ([.methodLink RX0 21 yX0_at, .instanceMethod yX0_at, .selects RX0 yX0_at yX0_at, .initialized RX0, .code yX0_at cX0_at 2 (some .int), .fieldLink RX0 15 "SampleTracker$Bank" "bytes" "[B", .methodLink RX0 35 yX1_step, .static yX1_step, .initialized RX1, .code yX1_step cX1_step 3 (some .int), .fieldLink RX1 7 "SampleTracker$Crc" "OF_HALF_BYTE" "[I", .methodLink RX0 29 yX0_number, .instanceMethod yX0_number, .selects RX0 yX0_number yX0_number, .code yX0_number cX0_number 6 (some .long), .methodLink RX0 38 yX1_end, .static yX1_end, .code yX1_end cX1_end 1 (some .int)] ++ wsX00)
def wsX0_hasRightHead : List Cond := .code yX0_hasRightHead cX0_hasRightHead 1 (some .boolean) :: ([.methodLink RX0 25 yX0_isClosedRight, .instanceMethod yX0_isClosedRight, .selects RX0 yX0_isClosedRight yX0_isClosedRight, .initialized RX0, .code yX0_isClosedRight cX0_isClosedRight 6 (some .boolean), .methodLink RX0 21 yX0_at, .instanceMethod yX0_at, .selects RX0 yX0_at yX0_at, .code yX0_at cX0_at 2 (some .int), .fieldLink RX0 15 "SampleTracker$Bank" "bytes" "[B", .methodLink RX0 35 yX1_step, .static yX1_step, .initialized RX1, .code yX1_step cX1_step 3 (some .int), .fieldLink RX1 7 "SampleTracker$Crc" "OF_HALF_BYTE" "[I", .methodLink RX0 29 yX0_number, .instanceMethod yX0_number, .selects RX0 yX0_number yX0_number, .code yX0_number cX0_number 6 (some .long), .methodLink RX0 38 yX1_end, .static yX1_end, .code yX1_end cX1_end 1 (some .int)] ++ wsX00)
def wsX0_wholeRecordAt : List Cond := .code yX0_wholeRecordAt cX0_wholeRecordAt 4 (some .int) :: ([.fieldLink RX0 15 "SampleTracker$Bank" "bytes" "[B", .methodLink RX0 29 yX0_number, .instanceMethod yX0_number, .selects RX0 yX0_number yX0_number, .initialized RX0, .code yX0_number cX0_number 6 (some .long), .methodLink RX0 21 yX0_at, .instanceMethod yX0_at, .selects RX0 yX0_at yX0_at, .code yX0_at cX0_at 2 (some .int), .methodLink RX0 25 yX0_isClosedRight, .instanceMethod yX0_isClosedRight, .selects RX0 yX0_isClosedRight yX0_isClosedRight, .code yX0_isClosedRight cX0_isClosedRight 6 (some .boolean), .methodLink RX0 35 yX1_step, .static yX1_step, .initialized RX1, .code yX1_step cX1_step 3 (some .int), .fieldLink RX1 7 "SampleTracker$Crc" "OF_HALF_BYTE" "[I", .methodLink RX0 38 yX1_end, .static yX1_end, .code yX1_end cX1_end 1 (some .int)] ++ wsX00)
def wsX0_blankFrom : List Cond := .code yX0_blankFrom cX0_blankFrom 3 none :: ([.methodLink RX0 9 Lib.Math.max.name, .static Lib.Math.max.name, .initialized "java/lang/Math", .code Lib.Math.max.name Lib.Math.max.code 2 (some .int), .fieldLink RX0 15 "SampleTracker$Bank" "bytes" "[B"] ++ wsX00)
def wsX2_init : List Cond := .code yX2_init cX2_init 1 none :: ([.methodLink RX2 3 objectInit, .instanceMethod objectInit, .code objectInit ⟨#[0xb1]⟩ 1 none, .fieldLink RX2 9 "SampleTracker$Entry" "kind" "I", .fieldLink RX2 15 "SampleTracker$Entry" "sample" "I", .fieldLink RX2 18 "SampleTracker$Entry" "well" "I", .fieldLink RX2 21 "SampleTracker$Entry" "volume" "J"] ++ wsX20)
def wsX2_set : List Cond := .code yX2_set cX2_set 6 none :: ([.fieldLink RX2 9 "SampleTracker$Entry" "kind" "I", .fieldLink RX2 15 "SampleTracker$Entry" "sample" "I", .fieldLink RX2 18 "SampleTracker$Entry" "well" "I", .fieldLink RX2 21 "SampleTracker$Entry" "volume" "J"] ++ wsX20)
def wsX2_hasSample : List Cond := .code yX2_hasSample cX2_hasSample 1 (some .boolean) :: ([.fieldLink RX2 9 "SampleTracker$Entry" "kind" "I"] ++ wsX20)
def wsX2_hasWell : List Cond := .code yX2_hasWell cX2_hasWell 1 (some .boolean) :: ([.fieldLink RX2 9 "SampleTracker$Entry" "kind" "I"] ++ wsX20)
def wsX2_hasVolume : List Cond := .code yX2_hasVolume cX2_hasVolume 1 (some .boolean) :: ([.fieldLink RX2 9 "SampleTracker$Entry" "kind" "I"] ++ wsX20)
def wsX2_length : List Cond := .code yX2_length cX2_length 1 (some .int) :: ([.methodLink RX2 25 yX2_hasSample, .instanceMethod yX2_hasSample, .selects RX2 yX2_hasSample yX2_hasSample, .initialized RX2, .code yX2_hasSample cX2_hasSample 1 (some .boolean), .fieldLink RX2 9 "SampleTracker$Entry" "kind" "I", .methodLink RX2 29 yX2_hasWell, .instanceMethod yX2_hasWell, .selects RX2 yX2_hasWell yX2_hasWell, .code yX2_hasWell cX2_hasWell 1 (some .boolean), .methodLink RX2 32 yX2_hasVolume, .instanceMethod yX2_hasVolume, .selects RX2 yX2_hasVolume yX2_hasVolume, .code yX2_hasVolume cX2_hasVolume 1 (some .boolean)] ++ wsX20)
def wsX2_readFrom_r1 : List Cond := [Cond.fieldLink RX2 9 "SampleTracker$Entry" "kind" "I", Cond.fieldLink RX2 15 "SampleTracker$Entry" "sample" "I", Cond.fieldLink RX2 18 "SampleTracker$Entry" "well" "I", Cond.fieldLink RX2 21 "SampleTracker$Entry" "volume" "J", Cond.methodLink RX2 35 yX0_at, Cond.instanceMethod yX0_at, Cond.selects RX0 yX0_at yX0_at, Cond.initialized RX0, Cond.code yX0_at cX0_at 2 (some .int), Cond.fieldLink RX0 15 "SampleTracker$Bank" "bytes" "[B", Cond.methodLink RX2 25 yX2_hasSample, Cond.instanceMethod yX2_hasSample, Cond.selects RX2 yX2_hasSample yX2_hasSample, Cond.initialized RX2, Cond.code yX2_hasSample cX2_hasSample 1 (some .boolean), Cond.methodLink RX2 41 yX0_number, Cond.instanceMethod yX0_number, Cond.selects RX0 yX0_number yX0_number, Cond.code yX0_number cX0_number 6 (some .long), Cond.methodLink RX0 21 yX0_at, Cond.methodLink RX2 29 yX2_hasWell, Cond.instanceMethod yX2_hasWell, Cond.selects RX2 yX2_hasWell yX2_hasWell, Cond.code yX2_hasWell cX2_hasWell 1 (some .boolean)]
def wsX2_readFrom_r2 : List Cond := [Cond.methodLink RX2 32 yX2_hasVolume, Cond.instanceMethod yX2_hasVolume, Cond.selects RX2 yX2_hasVolume yX2_hasVolume, Cond.code yX2_hasVolume cX2_hasVolume 1 (some .boolean)]
def wsX2_readFrom : List Cond := .code yX2_readFrom cX2_readFrom 4 none :: ((wsX2_readFrom_r1 ++ wsX2_readFrom_r2) ++ wsX20 ++ wsX00)
def wsX5_init : List Cond := .code yX5_init cX5_init 3 none :: ([.methodLink RX5 3 objectInit, .instanceMethod objectInit, .code objectInit ⟨#[0xb1]⟩ 1 none, .fieldLink RX5 9 "SampleTracker$Pen" "position" "I", .fieldLink RX5 17 "SampleTracker$Pen" "crc" "I", .fieldLink RX5 20 "SampleTracker$Pen" "power" "LSampleTracker$Power;", .fieldLink RX5 24 "SampleTracker$Pen" "bank" "LSampleTracker$Bank;"] ++ wsX50)
def wsX6_init : List Cond := .code yX6_init cX6_init 1 none :: ([.methodLink RX6 1 objectInit, .instanceMethod objectInit, .code objectInit ⟨#[0xb1]⟩ 1 none, .fieldLink RX6 7 "SampleTracker$Power" "up" "Z", .fieldLink RX6 13 "SampleTracker$Power" "cutWaits" "Z", .fieldLink RX6 16 "SampleTracker$Power" "bytesLeft" "I", .fieldLink RX6 20 "SampleTracker$Power" "written" "I", .fieldLink RX6 23 "SampleTracker$Power" "failed" "I"] ++ wsX60)
def wsX6_letByteThrough : List Cond := .code yX6_letByteThrough cX6_letByteThrough 2 (some .boolean) :: ([.fieldLink RX6 7 "SampleTracker$Power" "up" "Z", .fieldLink RX6 13 "SampleTracker$Power" "cutWaits" "Z", .fieldLink RX6 16 "SampleTracker$Power" "bytesLeft" "I", .fieldLink RX6 20 "SampleTracker$Power" "written" "I", .fieldLink RX6 23 "SampleTracker$Power" "failed" "I"] ++ wsX60)
def wsX5_writeByte : List Cond := .code yX5_writeByte cX5_writeByte 2 none :: ([.fieldLink RX5 20 "SampleTracker$Pen" "power" "LSampleTracker$Power;", .fieldLink RX5 24 "SampleTracker$Pen" "bank" "LSampleTracker$Bank;", .fieldLink RX5 9 "SampleTracker$Pen" "position" "I", .methodLink RX5 73 yX6_letByteThrough, .instanceMethod yX6_letByteThrough, .selects RX6 yX6_letByteThrough yX6_letByteThrough, .initialized RX6, .code yX6_letByteThrough cX6_letByteThrough 2 (some .boolean), .fieldLink RX6 7 "SampleTracker$Power" "up" "Z", .fieldLink RX6 13 "SampleTracker$Power" "cutWaits" "Z", .fieldLink RX6 16 "SampleTracker$Power" "bytesLeft" "I", .fieldLink RX6 20 "SampleTracker$Power" "written" "I", .fieldLink RX6 23 "SampleTracker$Power" "failed" "I", .methodLink RX5 78 yX0_put, .instanceMethod yX0_put, .selects RX0 yX0_put yX0_put, .initialized RX0, .code yX0_put cX0_put 3 none, .fieldLink RX0 15 "SampleTracker$Bank" "bytes" "[B"] ++ wsX50 ++ wsX60 ++ wsX00)
def wsX5_writeNumber_r1 : List Cond := [Cond.fieldLink RX5 17 "SampleTracker$Pen" "crc" "I", Cond.methodLink RX5 69 yX1_step, Cond.static yX1_step, Cond.initialized RX1, Cond.code yX1_step cX1_step 3 (some .int), Cond.fieldLink RX1 7 "SampleTracker$Crc" "OF_HALF_BYTE" "[I", Cond.methodLink RX5 28 yX5_writeByte, Cond.instanceMethod yX5_writeByte, Cond.selects RX5 yX5_writeByte yX5_writeByte, Cond.initialized RX5, Cond.code yX5_writeByte cX5_writeByte 2 none, Cond.fieldLink RX5 20 "SampleTracker$Pen" "power" "LSampleTracker$Power;", Cond.fieldLink RX5 24 "SampleTracker$Pen" "bank" "LSampleTracker$Bank;", Cond.fieldLink RX5 9 "SampleTracker$Pen" "position" "I", Cond.methodLink RX5 73 yX6_letByteThrough, Cond.instanceMethod yX6_letByteThrough, Cond.selects RX6 yX6_letByteThrough yX6_letByteThrough, Cond.initialized RX6, Cond.code yX6_letByteThrough cX6_letByteThrough 2 (some .boolean), Cond.fieldLink RX6 7 "SampleTracker$Power" "up" "Z", Cond.fieldLink RX6 13 "SampleTracker$Power" "cutWaits" "Z", Cond.fieldLink RX6 16 "SampleTracker$Power" "bytesLeft" "I", Cond.fieldLink RX6 20 "SampleTracker$Power" "written" "I", Cond.fieldLink RX6 23 "SampleTracker$Power" "failed" "I"]
def wsX5_writeNumber_r2 : List Cond := [Cond.methodLink RX5 78 yX0_put, Cond.instanceMethod yX0_put, Cond.selects RX0 yX0_put yX0_put, Cond.initialized RX0, Cond.code yX0_put cX0_put 3 none, Cond.fieldLink RX0 15 "SampleTracker$Bank" "bytes" "[B"]
def wsX5_writeNumber : List Cond := .code yX5_writeNumber cX5_writeNumber 6 none :: ((wsX5_writeNumber_r1 ++ wsX5_writeNumber_r2) ++ wsX50 ++ wsX60 ++ wsX00)
def wsX5_writeHead_r1 : List Cond := [Cond.fieldLink RX5 17 "SampleTracker$Pen" "crc" "I", Cond.methodLink RX5 32 yX5_writeNumber, Cond.instanceMethod yX5_writeNumber, Cond.selects RX5 yX5_writeNumber yX5_writeNumber, Cond.initialized RX5, Cond.code yX5_writeNumber cX5_writeNumber 6 none, Cond.methodLink RX5 69 yX1_step, Cond.static yX1_step, Cond.initialized RX1, Cond.code yX1_step cX1_step 3 (some .int), Cond.fieldLink RX1 7 "SampleTracker$Crc" "OF_HALF_BYTE" "[I", Cond.methodLink RX5 28 yX5_writeByte, Cond.instanceMethod yX5_writeByte, Cond.selects RX5 yX5_writeByte yX5_writeByte, Cond.code yX5_writeByte cX5_writeByte 2 none, Cond.fieldLink RX5 20 "SampleTracker$Pen" "power" "LSampleTracker$Power;", Cond.fieldLink RX5 24 "SampleTracker$Pen" "bank" "LSampleTracker$Bank;", Cond.fieldLink RX5 9 "SampleTracker$Pen" "position" "I", Cond.methodLink RX5 73 yX6_letByteThrough, Cond.instanceMethod yX6_letByteThrough, Cond.selects RX6 yX6_letByteThrough yX6_letByteThrough, Cond.initialized RX6, Cond.code yX6_letByteThrough cX6_letByteThrough 2 (some .boolean), Cond.fieldLink RX6 7 "SampleTracker$Power" "up" "Z"]
def wsX5_writeHead_r2 : List Cond := [Cond.fieldLink RX6 13 "SampleTracker$Power" "cutWaits" "Z", Cond.fieldLink RX6 16 "SampleTracker$Power" "bytesLeft" "I", Cond.fieldLink RX6 20 "SampleTracker$Power" "written" "I", Cond.fieldLink RX6 23 "SampleTracker$Power" "failed" "I", Cond.methodLink RX5 78 yX0_put, Cond.instanceMethod yX0_put, Cond.selects RX0 yX0_put yX0_put, Cond.initialized RX0, Cond.code yX0_put cX0_put 3 none, Cond.fieldLink RX0 15 "SampleTracker$Bank" "bytes" "[B", Cond.methodLink RX5 36 yX1_end, Cond.static yX1_end, Cond.code yX1_end cX1_end 1 (some .int)]
def wsX5_writeHead : List Cond := .code yX5_writeHead cX5_writeHead 2 none :: ((wsX5_writeHead_r1 ++ wsX5_writeHead_r2) ++ wsX50 ++ wsX60 ++ wsX00)
def wsX3_init_r1 : List Cond := [Cond.methodLink RX3 3 objectInit, Cond.instanceMethod objectInit, Cond.code objectInit ⟨#[0xb1]⟩ 1 none, Cond.fieldLink RX3 9 "SampleTracker$Journal" "inUse" "I", Cond.fieldLink RX3 15 "SampleTracker$Journal" "end" "I", Cond.fieldLink RX3 18 "SampleTracker$Journal" "power" "LSampleTracker$Power;", Cond.classLink RX3 22 RX0, Cond.instantiable RX0 1, Cond.initialized RX0, Cond.fieldLink RX3 27 "SampleTracker$Journal" "first" "LSampleTracker$Bank;", Cond.fieldLink RX3 31 "SampleTracker$Journal" "second" "LSampleTracker$Bank;", Cond.classLink RX3 34 RX5, Cond.instantiable RX5 4, Cond.initialized RX5, Cond.fieldLink RX3 39 "SampleTracker$Journal" "pen" "LSampleTracker$Pen;", Cond.classLink RX3 43 RX6, Cond.instantiable RX6 5, Cond.initialized RX6, Cond.methodLink RX3 24 yX0_init, Cond.instanceMethod yX0_init, Cond.code yX0_init cX0_init 2 none, Cond.methodLink RX0 3 objectInit, Cond.methodLink RX0 9 Lib.Math.max.name, Cond.static Lib.Math.max.name]
def wsX3_init_r2 : List Cond := [Cond.initialized "java/lang/Math", Cond.code Lib.Math.max.name Lib.Math.max.code 2 (some .int), Cond.arrayClass .byte, Cond.fieldLink RX0 15 "SampleTracker$Bank" "bytes" "[B", Cond.methodLink RX3 36 yX5_init, Cond.instanceMethod yX5_init, Cond.code yX5_init cX5_init 3 none, Cond.methodLink RX5 3 objectInit, Cond.fieldLink RX5 9 "SampleTracker$Pen" "position" "I", Cond.fieldLink RX5 17 "SampleTracker$Pen" "crc" "I", Cond.fieldLink RX5 20 "SampleTracker$Pen" "power" "LSampleTracker$Power;", Cond.fieldLink RX5 24 "SampleTracker$Pen" "bank" "LSampleTracker$Bank;", Cond.instanceMethod yX6_init, Cond.code yX6_init cX6_init 1 none, Cond.methodLink RX6 1 objectInit, Cond.fieldLink RX6 7 "SampleTracker$Power" "up" "Z", Cond.fieldLink RX6 13 "SampleTracker$Power" "cutWaits" "Z", Cond.fieldLink RX6 16 "SampleTracker$Power" "bytesLeft" "I", Cond.fieldLink RX6 20 "SampleTracker$Power" "written" "I", Cond.fieldLink RX6 23 "SampleTracker$Power" "failed" "I", Cond.methodLink RX3 46 yX5_writeHead, Cond.instanceMethod yX5_writeHead, Cond.selects RX5 yX5_writeHead yX5_writeHead, Cond.code yX5_writeHead cX5_writeHead 2 none]
def wsX3_init_r3 : List Cond := [Cond.methodLink RX5 32 yX5_writeNumber, Cond.instanceMethod yX5_writeNumber, Cond.selects RX5 yX5_writeNumber yX5_writeNumber, Cond.code yX5_writeNumber cX5_writeNumber 6 none, Cond.methodLink RX5 69 yX1_step, Cond.static yX1_step, Cond.initialized RX1, Cond.code yX1_step cX1_step 3 (some .int), Cond.fieldLink RX1 7 "SampleTracker$Crc" "OF_HALF_BYTE" "[I", Cond.methodLink RX5 28 yX5_writeByte, Cond.instanceMethod yX5_writeByte, Cond.selects RX5 yX5_writeByte yX5_writeByte, Cond.code yX5_writeByte cX5_writeByte 2 none, Cond.methodLink RX5 73 yX6_letByteThrough, Cond.instanceMethod yX6_letByteThrough, Cond.selects RX6 yX6_letByteThrough yX6_letByteThrough, Cond.code yX6_letByteThrough cX6_letByteThrough 2 (some .boolean), Cond.methodLink RX5 78 yX0_put, Cond.instanceMethod yX0_put, Cond.selects RX0 yX0_put yX0_put, Cond.code yX0_put cX0_put 3 none, Cond.methodLink RX5 36 yX1_end, Cond.static yX1_end, Cond.code yX1_end cX1_end 1 (some .int)]
def wsX3_init : List Cond := .code yX3_init cX3_init 4 none :: ((wsX3_init_r1 ++ (wsX3_init_r2 ++ wsX3_init_r3)) ++ wsX30 ++ wsX00 ++ wsX50 ++ wsX60)
def wsX3_bank : List Cond := .code yX3_bank cX3_bank 2 (some (.object "SampleTracker$Bank")) :: ([.fieldLink RX3 27 "SampleTracker$Journal" "first" "LSampleTracker$Bank;", .fieldLink RX3 31 "SampleTracker$Journal" "second" "LSampleTracker$Bank;"] ++ wsX30)
def wsX3_bankBytes : List Cond := .code yX3_bankBytes cX3_bankBytes 1 (some .int) :: ([.fieldLink RX3 27 "SampleTracker$Journal" "first" "LSampleTracker$Bank;", .methodLink RX3 49 yX0_size, .instanceMethod yX0_size, .selects RX0 yX0_size yX0_size, .initialized RX0, .code yX0_size cX0_size 1 (some .int), .fieldLink RX0 15 "SampleTracker$Bank" "bytes" "[B"] ++ wsX30 ++ wsX00)
def wsX3_bankInUse : List Cond := .code yX3_bankInUse cX3_bankInUse 1 (some .int) :: ([.fieldLink RX3 9 "SampleTracker$Journal" "inUse" "I"] ++ wsX30)
def wsX3_generation : List Cond := .code yX3_generation cX3_generation 1 (some .int) :: ([.fieldLink RX3 9 "SampleTracker$Journal" "inUse" "I", .methodLink RX3 53 yX3_bank, .instanceMethod yX3_bank, .selects RX3 yX3_bank yX3_bank, .initialized RX3, .code yX3_bank cX3_bank 2 (some (.object "SampleTracker$Bank")), .fieldLink RX3 27 "SampleTracker$Journal" "first" "LSampleTracker$Bank;", .fieldLink RX3 31 "SampleTracker$Journal" "second" "LSampleTracker$Bank;", .methodLink RX3 57 yX0_number, .instanceMethod yX0_number, .selects RX0 yX0_number yX0_number, .initialized RX0, .code yX0_number cX0_number 6 (some .long), .methodLink RX0 21 yX0_at, .instanceMethod yX0_at, .selects RX0 yX0_at yX0_at, .code yX0_at cX0_at 2 (some .int), .fieldLink RX0 15 "SampleTracker$Bank" "bytes" "[B"] ++ wsX30 ++ wsX00)
def wsX3_end : List Cond := .code yX3_end cX3_end 1 (some .int) :: ([.fieldLink RX3 15 "SampleTracker$Journal" "end" "I"] ++ wsX30)
def wsX3_hasRoomFor_r1 : List Cond := [Cond.fieldLink RX3 15 "SampleTracker$Journal" "end" "I", Cond.methodLink RX3 61 yX2_length, Cond.instanceMethod yX2_length, Cond.selects RX2 yX2_length yX2_length, Cond.initialized RX2, Cond.code yX2_length cX2_length 1 (some .int), Cond.methodLink RX2 25 yX2_hasSample, Cond.instanceMethod yX2_hasSample, Cond.selects RX2 yX2_hasSample yX2_hasSample, Cond.code yX2_hasSample cX2_hasSample 1 (some .boolean), Cond.fieldLink RX2 9 "SampleTracker$Entry" "kind" "I", Cond.methodLink RX2 29 yX2_hasWell, Cond.instanceMethod yX2_hasWell, Cond.selects RX2 yX2_hasWell yX2_hasWell, Cond.code yX2_hasWell cX2_hasWell 1 (some .boolean), Cond.methodLink RX2 32 yX2_hasVolume, Cond.instanceMethod yX2_hasVolume, Cond.selects RX2 yX2_hasVolume yX2_hasVolume, Cond.code yX2_hasVolume cX2_hasVolume 1 (some .boolean), Cond.methodLink RX3 66 yX3_bankBytes, Cond.instanceMethod yX3_bankBytes, Cond.selects RX3 yX3_bankBytes yX3_bankBytes, Cond.initialized RX3, Cond.code yX3_bankBytes cX3_bankBytes 1 (some .int)]
def wsX3_hasRoomFor_r2 : List Cond := [Cond.fieldLink RX3 27 "SampleTracker$Journal" "first" "LSampleTracker$Bank;", Cond.methodLink RX3 49 yX0_size, Cond.instanceMethod yX0_size, Cond.selects RX0 yX0_size yX0_size, Cond.initialized RX0, Cond.code yX0_size cX0_size 1 (some .int), Cond.fieldLink RX0 15 "SampleTracker$Bank" "bytes" "[B"]
def wsX3_hasRoomFor : List Cond := .code yX3_hasRoomFor cX3_hasRoomFor 2 (some .boolean) :: ((wsX3_hasRoomFor_r1 ++ wsX3_hasRoomFor_r2) ++ wsX30 ++ wsX20 ++ wsX00)
def wsX5_goTo : List Cond := .code yX5_goTo cX5_goTo 3 none :: ([.fieldLink RX5 24 "SampleTracker$Pen" "bank" "LSampleTracker$Bank;", .fieldLink RX5 9 "SampleTracker$Pen" "position" "I"] ++ wsX50)
def wsX5_writeRecord_r1 : List Cond := [Cond.fieldLink RX5 17 "SampleTracker$Pen" "crc" "I", Cond.methodLink RX5 40 yX2_length, Cond.instanceMethod yX2_length, Cond.selects RX2 yX2_length yX2_length, Cond.initialized RX2, Cond.code yX2_length cX2_length 1 (some .int), Cond.methodLink RX2 25 yX2_hasSample, Cond.instanceMethod yX2_hasSample, Cond.selects RX2 yX2_hasSample yX2_hasSample, Cond.code yX2_hasSample cX2_hasSample 1 (some .boolean), Cond.fieldLink RX2 9 "SampleTracker$Entry" "kind" "I", Cond.methodLink RX2 29 yX2_hasWell, Cond.instanceMethod yX2_hasWell, Cond.selects RX2 yX2_hasWell yX2_hasWell, Cond.code yX2_hasWell cX2_hasWell 1 (some .boolean), Cond.methodLink RX2 32 yX2_hasVolume, Cond.instanceMethod yX2_hasVolume, Cond.selects RX2 yX2_hasVolume yX2_hasVolume, Cond.code yX2_hasVolume cX2_hasVolume 1 (some .boolean), Cond.methodLink RX5 32 yX5_writeNumber, Cond.instanceMethod yX5_writeNumber, Cond.selects RX5 yX5_writeNumber yX5_writeNumber, Cond.initialized RX5, Cond.code yX5_writeNumber cX5_writeNumber 6 none]
def wsX5_writeRecord_r2 : List Cond := [Cond.methodLink RX5 69 yX1_step, Cond.static yX1_step, Cond.initialized RX1, Cond.code yX1_step cX1_step 3 (some .int), Cond.fieldLink RX1 7 "SampleTracker$Crc" "OF_HALF_BYTE" "[I", Cond.methodLink RX5 28 yX5_writeByte, Cond.instanceMethod yX5_writeByte, Cond.selects RX5 yX5_writeByte yX5_writeByte, Cond.code yX5_writeByte cX5_writeByte 2 none, Cond.fieldLink RX5 20 "SampleTracker$Pen" "power" "LSampleTracker$Power;", Cond.fieldLink RX5 24 "SampleTracker$Pen" "bank" "LSampleTracker$Bank;", Cond.fieldLink RX5 9 "SampleTracker$Pen" "position" "I", Cond.methodLink RX5 73 yX6_letByteThrough, Cond.instanceMethod yX6_letByteThrough, Cond.selects RX6 yX6_letByteThrough yX6_letByteThrough, Cond.initialized RX6, Cond.code yX6_letByteThrough cX6_letByteThrough 2 (some .boolean), Cond.fieldLink RX6 7 "SampleTracker$Power" "up" "Z", Cond.fieldLink RX6 13 "SampleTracker$Power" "cutWaits" "Z", Cond.fieldLink RX6 16 "SampleTracker$Power" "bytesLeft" "I", Cond.fieldLink RX6 20 "SampleTracker$Power" "written" "I", Cond.fieldLink RX6 23 "SampleTracker$Power" "failed" "I", Cond.methodLink RX5 78 yX0_put, Cond.instanceMethod yX0_put]
def wsX5_writeRecord_r3 : List Cond := [Cond.selects RX0 yX0_put yX0_put, Cond.initialized RX0, Cond.code yX0_put cX0_put 3 none, Cond.fieldLink RX0 15 "SampleTracker$Bank" "bytes" "[B", Cond.methodLink RX5 49 yX2_hasSample, Cond.methodLink RX5 56 yX2_hasWell, Cond.methodLink RX5 62 yX2_hasVolume, Cond.methodLink RX5 36 yX1_end, Cond.static yX1_end, Cond.code yX1_end cX1_end 1 (some .int)]
def wsX5_writeRecord : List Cond := .code yX5_writeRecord cX5_writeRecord 2 none :: ((wsX5_writeRecord_r1 ++ (wsX5_writeRecord_r2 ++ wsX5_writeRecord_r3)) ++ wsX50 ++ wsX20 ++ wsX60 ++ wsX00)
def wsX6_isUp : List Cond := .code yX6_isUp cX6_isUp 1 (some .boolean) :: ([.fieldLink RX6 7 "SampleTracker$Power" "up" "Z"] ++ wsX60)
def wsX5_position : List Cond := .code yX5_position cX5_position 1 (some .int) :: ([.fieldLink RX5 9 "SampleTracker$Pen" "position" "I"] ++ wsX50)
def wsX3_append_r1 : List Cond := [Cond.fieldLink RX3 39 "SampleTracker$Journal" "pen" "LSampleTracker$Pen;", Cond.fieldLink RX3 9 "SampleTracker$Journal" "inUse" "I", Cond.fieldLink RX3 15 "SampleTracker$Journal" "end" "I", Cond.fieldLink RX3 18 "SampleTracker$Journal" "power" "LSampleTracker$Power;", Cond.methodLink RX3 53 yX3_bank, Cond.instanceMethod yX3_bank, Cond.selects RX3 yX3_bank yX3_bank, Cond.initialized RX3, Cond.code yX3_bank cX3_bank 2 (some (.object "SampleTracker$Bank")), Cond.fieldLink RX3 27 "SampleTracker$Journal" "first" "LSampleTracker$Bank;", Cond.fieldLink RX3 31 "SampleTracker$Journal" "second" "LSampleTracker$Bank;", Cond.methodLink RX3 69 yX5_goTo, Cond.instanceMethod yX5_goTo, Cond.selects RX5 yX5_goTo yX5_goTo, Cond.initialized RX5, Cond.code yX5_goTo cX5_goTo 3 none, Cond.fieldLink RX5 24 "SampleTracker$Pen" "bank" "LSampleTracker$Bank;", Cond.fieldLink RX5 9 "SampleTracker$Pen" "position" "I", Cond.methodLink RX3 73 yX5_writeRecord, Cond.instanceMethod yX5_writeRecord, Cond.selects RX5 yX5_writeRecord yX5_writeRecord, Cond.code yX5_writeRecord cX5_writeRecord 2 none, Cond.fieldLink RX5 17 "SampleTracker$Pen" "crc" "I", Cond.methodLink RX5 40 yX2_length]
def wsX3_append_r2 : List Cond := [Cond.instanceMethod yX2_length, Cond.selects RX2 yX2_length yX2_length, Cond.initialized RX2, Cond.code yX2_length cX2_length 1 (some .int), Cond.methodLink RX2 25 yX2_hasSample, Cond.instanceMethod yX2_hasSample, Cond.selects RX2 yX2_hasSample yX2_hasSample, Cond.code yX2_hasSample cX2_hasSample 1 (some .boolean), Cond.fieldLink RX2 9 "SampleTracker$Entry" "kind" "I", Cond.methodLink RX2 29 yX2_hasWell, Cond.instanceMethod yX2_hasWell, Cond.selects RX2 yX2_hasWell yX2_hasWell, Cond.code yX2_hasWell cX2_hasWell 1 (some .boolean), Cond.methodLink RX2 32 yX2_hasVolume, Cond.instanceMethod yX2_hasVolume, Cond.selects RX2 yX2_hasVolume yX2_hasVolume, Cond.code yX2_hasVolume cX2_hasVolume 1 (some .boolean), Cond.methodLink RX5 32 yX5_writeNumber, Cond.instanceMethod yX5_writeNumber, Cond.selects RX5 yX5_writeNumber yX5_writeNumber, Cond.code yX5_writeNumber cX5_writeNumber 6 none, Cond.methodLink RX5 69 yX1_step, Cond.static yX1_step, Cond.initialized RX1]
def wsX3_append_r3 : List Cond := [Cond.code yX1_step cX1_step 3 (some .int), Cond.fieldLink RX1 7 "SampleTracker$Crc" "OF_HALF_BYTE" "[I", Cond.methodLink RX5 28 yX5_writeByte, Cond.instanceMethod yX5_writeByte, Cond.selects RX5 yX5_writeByte yX5_writeByte, Cond.code yX5_writeByte cX5_writeByte 2 none, Cond.fieldLink RX5 20 "SampleTracker$Pen" "power" "LSampleTracker$Power;", Cond.methodLink RX5 73 yX6_letByteThrough, Cond.instanceMethod yX6_letByteThrough, Cond.selects RX6 yX6_letByteThrough yX6_letByteThrough, Cond.initialized RX6, Cond.code yX6_letByteThrough cX6_letByteThrough 2 (some .boolean), Cond.fieldLink RX6 7 "SampleTracker$Power" "up" "Z", Cond.fieldLink RX6 13 "SampleTracker$Power" "cutWaits" "Z", Cond.fieldLink RX6 16 "SampleTracker$Power" "bytesLeft" "I", Cond.fieldLink RX6 20 "SampleTracker$Power" "written" "I", Cond.fieldLink RX6 23 "SampleTracker$Power" "failed" "I", Cond.methodLink RX5 78 yX0_put, Cond.instanceMethod yX0_put, Cond.selects RX0 yX0_put yX0_put, Cond.initialized RX0, Cond.code yX0_put cX0_put 3 none, Cond.fieldLink RX0 15 "SampleTracker$Bank" "bytes" "[B", Cond.methodLink RX5 49 yX2_hasSample]
def wsX3_append_r4 : List Cond := [Cond.methodLink RX5 56 yX2_hasWell, Cond.methodLink RX5 62 yX2_hasVolume, Cond.methodLink RX5 36 yX1_end, Cond.static yX1_end, Cond.code yX1_end cX1_end 1 (some .int), Cond.methodLink RX3 77 yX6_isUp, Cond.instanceMethod yX6_isUp, Cond.selects RX6 yX6_isUp yX6_isUp, Cond.code yX6_isUp cX6_isUp 1 (some .boolean), Cond.methodLink RX3 81 yX5_position, Cond.instanceMethod yX5_position, Cond.selects RX5 yX5_position yX5_position, Cond.code yX5_position cX5_position 1 (some .int)]
def wsX3_append : List Cond := .code yX3_append cX3_append 2 (some .boolean) :: ((wsX3_append_r1 ++ (wsX3_append_r2 ++ (wsX3_append_r3 ++ wsX3_append_r4))) ++ wsX30 ++ wsX50 ++ wsX20 ++ wsX60 ++ wsX00)
def wsX3_otherBankHolds : List Cond := .code yX3_otherBankHolds cX3_otherBankHolds 2 (some .boolean) :: ([.methodLink RX3 66 yX3_bankBytes, .instanceMethod yX3_bankBytes, .selects RX3 yX3_bankBytes yX3_bankBytes, .initialized RX3, .code yX3_bankBytes cX3_bankBytes 1 (some .int), .fieldLink RX3 27 "SampleTracker$Journal" "first" "LSampleTracker$Bank;", .methodLink RX3 49 yX0_size, .instanceMethod yX0_size, .selects RX0 yX0_size yX0_size, .initialized RX0, .code yX0_size cX0_size 1 (some .int), .fieldLink RX0 15 "SampleTracker$Bank" "bytes" "[B"] ++ wsX30 ++ wsX00)
def wsX5_writeZeros : List Cond := .code yX5_writeZeros cX5_writeZeros 3 none :: ([.methodLink RX5 28 yX5_writeByte, .instanceMethod yX5_writeByte, .selects RX5 yX5_writeByte yX5_writeByte, .initialized RX5, .code yX5_writeByte cX5_writeByte 2 none, .fieldLink RX5 20 "SampleTracker$Pen" "power" "LSampleTracker$Power;", .fieldLink RX5 24 "SampleTracker$Pen" "bank" "LSampleTracker$Bank;", .fieldLink RX5 9 "SampleTracker$Pen" "position" "I", .methodLink RX5 73 yX6_letByteThrough, .instanceMethod yX6_letByteThrough, .selects RX6 yX6_letByteThrough yX6_letByteThrough, .initialized RX6, .code yX6_letByteThrough cX6_letByteThrough 2 (some .boolean), .fieldLink RX6 7 "SampleTracker$Power" "up" "Z", .fieldLink RX6 13 "SampleTracker$Power" "cutWaits" "Z", .fieldLink RX6 16 "SampleTracker$Power" "bytesLeft" "I", .fieldLink RX6 20 "SampleTracker$Power" "written" "I", .fieldLink RX6 23 "SampleTracker$Power" "failed" "I", .methodLink RX5 78 yX0_put, .instanceMethod yX0_put, .selects RX0 yX0_put yX0_put, .initialized RX0, .code yX0_put cX0_put 3 none, .fieldLink RX0 15 "SampleTracker$Bank" "bytes" "[B"] ++ wsX50 ++ wsX60 ++ wsX00)
def wsX7_lostVolume : List Cond := .code yX7_lostVolume cX7_lostVolume 1 (some .long) :: ([.fieldLink RX7 37 "SampleTracker$Table" "lost" "J"] ++ wsX70)
def wsX7_sampleCount : List Cond := .code yX7_sampleCount cX7_sampleCount 1 (some .int) :: ([.fieldLink RX7 33 "SampleTracker$Table" "samples" "I"] ++ wsX70)
def wsX7_isSample : List Cond := .code yX7_isSample cX7_isSample 2 (some .boolean) :: ([.fieldLink RX7 33 "SampleTracker$Table" "samples" "I"] ++ wsX70)
def wsX7_wellOf : List Cond := .code yX7_wellOf cX7_wellOf 2 (some .int) :: ([.fieldLink RX7 15 "SampleTracker$Table" "wells" "[I", .methodLink RX7 45 yX7_isSample, .instanceMethod yX7_isSample, .selects RX7 yX7_isSample yX7_isSample, .initialized RX7, .code yX7_isSample cX7_isSample 2 (some .boolean), .fieldLink RX7 33 "SampleTracker$Table" "samples" "I"] ++ wsX70)
def wsX7_isLive : List Cond := .code yX7_isLive cX7_isLive 2 (some .boolean) :: ([.methodLink RX7 41 yX7_wellOf, .instanceMethod yX7_wellOf, .selects RX7 yX7_wellOf yX7_wellOf, .initialized RX7, .code yX7_wellOf cX7_wellOf 2 (some .int), .fieldLink RX7 15 "SampleTracker$Table" "wells" "[I", .methodLink RX7 45 yX7_isSample, .instanceMethod yX7_isSample, .selects RX7 yX7_isSample yX7_isSample, .code yX7_isSample cX7_isSample 2 (some .boolean), .fieldLink RX7 33 "SampleTracker$Table" "samples" "I"] ++ wsX70)
def wsX7_parentOf : List Cond := .code yX7_parentOf cX7_parentOf 2 (some .int) :: ([.fieldLink RX7 9 "SampleTracker$Table" "parents" "[I", .methodLink RX7 45 yX7_isSample, .instanceMethod yX7_isSample, .selects RX7 yX7_isSample yX7_isSample, .initialized RX7, .code yX7_isSample cX7_isSample 2 (some .boolean), .fieldLink RX7 33 "SampleTracker$Table" "samples" "I"] ++ wsX70)
def wsX7_volumeOf : List Cond := .code yX7_volumeOf cX7_volumeOf 2 (some .long) :: ([.fieldLink RX7 18 "SampleTracker$Table" "volumes" "[J", .constantLong RX7 49 (-1), .methodLink RX7 45 yX7_isSample, .instanceMethod yX7_isSample, .selects RX7 yX7_isSample yX7_isSample, .initialized RX7, .code yX7_isSample cX7_isSample 2 (some .boolean), .fieldLink RX7 33 "SampleTracker$Table" "samples" "I"] ++ wsX70)
def wsX3_writeAnew_r1 : List Cond := [Cond.fieldLink RX3 9 "SampleTracker$Journal" "inUse" "I", Cond.fieldLink RX3 39 "SampleTracker$Journal" "pen" "LSampleTracker$Pen;", Cond.fieldLink RX3 18 "SampleTracker$Journal" "power" "LSampleTracker$Power;", Cond.fieldLink RX3 15 "SampleTracker$Journal" "end" "I", Cond.methodLink RX3 53 yX3_bank, Cond.instanceMethod yX3_bank, Cond.selects RX3 yX3_bank yX3_bank, Cond.initialized RX3, Cond.code yX3_bank cX3_bank 2 (some (.object "SampleTracker$Bank")), Cond.fieldLink RX3 27 "SampleTracker$Journal" "first" "LSampleTracker$Bank;", Cond.fieldLink RX3 31 "SampleTracker$Journal" "second" "LSampleTracker$Bank;", Cond.methodLink RX3 69 yX5_goTo, Cond.instanceMethod yX5_goTo, Cond.selects RX5 yX5_goTo yX5_goTo, Cond.initialized RX5, Cond.code yX5_goTo cX5_goTo 3 none, Cond.fieldLink RX5 24 "SampleTracker$Pen" "bank" "LSampleTracker$Bank;", Cond.fieldLink RX5 9 "SampleTracker$Pen" "position" "I", Cond.methodLink RX3 49 yX0_size, Cond.instanceMethod yX0_size, Cond.selects RX0 yX0_size yX0_size, Cond.initialized RX0, Cond.code yX0_size cX0_size 1 (some .int), Cond.fieldLink RX0 15 "SampleTracker$Bank" "bytes" "[B"]
def wsX3_writeAnew_r2 : List Cond := [Cond.methodLink RX3 84 yX5_writeZeros, Cond.instanceMethod yX5_writeZeros, Cond.selects RX5 yX5_writeZeros yX5_writeZeros, Cond.code yX5_writeZeros cX5_writeZeros 3 none, Cond.methodLink RX5 28 yX5_writeByte, Cond.instanceMethod yX5_writeByte, Cond.selects RX5 yX5_writeByte yX5_writeByte, Cond.code yX5_writeByte cX5_writeByte 2 none, Cond.fieldLink RX5 20 "SampleTracker$Pen" "power" "LSampleTracker$Power;", Cond.methodLink RX5 73 yX6_letByteThrough, Cond.instanceMethod yX6_letByteThrough, Cond.selects RX6 yX6_letByteThrough yX6_letByteThrough, Cond.initialized RX6, Cond.code yX6_letByteThrough cX6_letByteThrough 2 (some .boolean), Cond.fieldLink RX6 7 "SampleTracker$Power" "up" "Z", Cond.fieldLink RX6 13 "SampleTracker$Power" "cutWaits" "Z", Cond.fieldLink RX6 16 "SampleTracker$Power" "bytesLeft" "I", Cond.fieldLink RX6 20 "SampleTracker$Power" "written" "I", Cond.fieldLink RX6 23 "SampleTracker$Power" "failed" "I", Cond.methodLink RX5 78 yX0_put, Cond.instanceMethod yX0_put, Cond.selects RX0 yX0_put yX0_put, Cond.code yX0_put cX0_put 3 none, Cond.methodLink RX3 87 yX7_lostVolume]
def wsX3_writeAnew_r3 : List Cond := [Cond.instanceMethod yX7_lostVolume, Cond.selects RX7 yX7_lostVolume yX7_lostVolume, Cond.initialized RX7, Cond.code yX7_lostVolume cX7_lostVolume 1 (some .long), Cond.fieldLink RX7 37 "SampleTracker$Table" "lost" "J", Cond.methodLink RX3 93 yX2_set, Cond.instanceMethod yX2_set, Cond.selects RX2 yX2_set yX2_set, Cond.initialized RX2, Cond.code yX2_set cX2_set 6 none, Cond.fieldLink RX2 9 "SampleTracker$Entry" "kind" "I", Cond.fieldLink RX2 15 "SampleTracker$Entry" "sample" "I", Cond.fieldLink RX2 18 "SampleTracker$Entry" "well" "I", Cond.fieldLink RX2 21 "SampleTracker$Entry" "volume" "J", Cond.methodLink RX3 73 yX5_writeRecord, Cond.instanceMethod yX5_writeRecord, Cond.selects RX5 yX5_writeRecord yX5_writeRecord, Cond.code yX5_writeRecord cX5_writeRecord 2 none, Cond.fieldLink RX5 17 "SampleTracker$Pen" "crc" "I", Cond.methodLink RX5 40 yX2_length, Cond.instanceMethod yX2_length, Cond.selects RX2 yX2_length yX2_length, Cond.code yX2_length cX2_length 1 (some .int), Cond.methodLink RX2 25 yX2_hasSample]
def wsX3_writeAnew_r4 : List Cond := [Cond.instanceMethod yX2_hasSample, Cond.selects RX2 yX2_hasSample yX2_hasSample, Cond.code yX2_hasSample cX2_hasSample 1 (some .boolean), Cond.methodLink RX2 29 yX2_hasWell, Cond.instanceMethod yX2_hasWell, Cond.selects RX2 yX2_hasWell yX2_hasWell, Cond.code yX2_hasWell cX2_hasWell 1 (some .boolean), Cond.methodLink RX2 32 yX2_hasVolume, Cond.instanceMethod yX2_hasVolume, Cond.selects RX2 yX2_hasVolume yX2_hasVolume, Cond.code yX2_hasVolume cX2_hasVolume 1 (some .boolean), Cond.methodLink RX5 32 yX5_writeNumber, Cond.instanceMethod yX5_writeNumber, Cond.selects RX5 yX5_writeNumber yX5_writeNumber, Cond.code yX5_writeNumber cX5_writeNumber 6 none, Cond.methodLink RX5 69 yX1_step, Cond.static yX1_step, Cond.initialized RX1, Cond.code yX1_step cX1_step 3 (some .int), Cond.fieldLink RX1 7 "SampleTracker$Crc" "OF_HALF_BYTE" "[I", Cond.methodLink RX5 49 yX2_hasSample, Cond.methodLink RX5 56 yX2_hasWell, Cond.methodLink RX5 62 yX2_hasVolume, Cond.methodLink RX5 36 yX1_end]
def wsX3_writeAnew_r5 : List Cond := [Cond.static yX1_end, Cond.code yX1_end cX1_end 1 (some .int), Cond.methodLink RX3 97 yX7_sampleCount, Cond.instanceMethod yX7_sampleCount, Cond.selects RX7 yX7_sampleCount yX7_sampleCount, Cond.code yX7_sampleCount cX7_sampleCount 1 (some .int), Cond.fieldLink RX7 33 "SampleTracker$Table" "samples" "I", Cond.methodLink RX3 100 yX7_isLive, Cond.instanceMethod yX7_isLive, Cond.selects RX7 yX7_isLive yX7_isLive, Cond.code yX7_isLive cX7_isLive 2 (some .boolean), Cond.methodLink RX7 41 yX7_wellOf, Cond.instanceMethod yX7_wellOf, Cond.selects RX7 yX7_wellOf yX7_wellOf, Cond.code yX7_wellOf cX7_wellOf 2 (some .int), Cond.fieldLink RX7 15 "SampleTracker$Table" "wells" "[I", Cond.methodLink RX7 45 yX7_isSample, Cond.instanceMethod yX7_isSample, Cond.selects RX7 yX7_isSample yX7_isSample, Cond.code yX7_isSample cX7_isSample 2 (some .boolean), Cond.methodLink RX3 104 yX7_wellOf, Cond.methodLink RX3 108 yX7_parentOf, Cond.instanceMethod yX7_parentOf, Cond.selects RX7 yX7_parentOf yX7_parentOf]
def wsX3_writeAnew_r6 : List Cond := [Cond.code yX7_parentOf cX7_parentOf 2 (some .int), Cond.fieldLink RX7 9 "SampleTracker$Table" "parents" "[I", Cond.methodLink RX3 111 yX7_volumeOf, Cond.instanceMethod yX7_volumeOf, Cond.selects RX7 yX7_volumeOf yX7_volumeOf, Cond.code yX7_volumeOf cX7_volumeOf 2 (some .long), Cond.fieldLink RX7 18 "SampleTracker$Table" "volumes" "[J", Cond.constantLong RX7 49 (-1), Cond.methodLink RX3 81 yX5_position, Cond.instanceMethod yX5_position, Cond.selects RX5 yX5_position yX5_position, Cond.code yX5_position cX5_position 1 (some .int), Cond.methodLink RX3 115 yX3_generation, Cond.instanceMethod yX3_generation, Cond.selects RX3 yX3_generation yX3_generation, Cond.code yX3_generation cX3_generation 1 (some .int), Cond.methodLink RX3 57 yX0_number, Cond.instanceMethod yX0_number, Cond.selects RX0 yX0_number yX0_number, Cond.code yX0_number cX0_number 6 (some .long), Cond.methodLink RX0 21 yX0_at, Cond.instanceMethod yX0_at, Cond.selects RX0 yX0_at yX0_at, Cond.code yX0_at cX0_at 2 (some .int)]
def wsX3_writeAnew_r7 : List Cond := [Cond.methodLink RX3 46 yX5_writeHead, Cond.instanceMethod yX5_writeHead, Cond.selects RX5 yX5_writeHead yX5_writeHead, Cond.code yX5_writeHead cX5_writeHead 2 none, Cond.methodLink RX3 77 yX6_isUp, Cond.instanceMethod yX6_isUp, Cond.selects RX6 yX6_isUp yX6_isUp, Cond.code yX6_isUp cX6_isUp 1 (some .boolean)]
def wsX3_writeAnew : List Cond := .code yX3_writeAnew cX3_writeAnew 6 (some .boolean) :: ((wsX3_writeAnew_r1 ++ (wsX3_writeAnew_r2 ++ (wsX3_writeAnew_r3 ++ (wsX3_writeAnew_r4 ++ (wsX3_writeAnew_r5 ++ (wsX3_writeAnew_r6 ++ wsX3_writeAnew_r7)))))) ++ wsX30 ++ wsX50 ++ wsX00 ++ wsX60 ++ wsX70 ++ wsX20)
def wsX3_chooseBank_r1 : List Cond := [Cond.fieldLink RX3 27 "SampleTracker$Journal" "first" "LSampleTracker$Bank;", Cond.fieldLink RX3 31 "SampleTracker$Journal" "second" "LSampleTracker$Bank;", Cond.fieldLink RX3 9 "SampleTracker$Journal" "inUse" "I", Cond.fieldLink RX3 15 "SampleTracker$Journal" "end" "I", Cond.methodLink RX3 118 yX0_hasRightHead, Cond.instanceMethod yX0_hasRightHead, Cond.selects RX0 yX0_hasRightHead yX0_hasRightHead, Cond.initialized RX0, Cond.code yX0_hasRightHead cX0_hasRightHead 1 (some .boolean), Cond.methodLink RX0 25 yX0_isClosedRight, Cond.instanceMethod yX0_isClosedRight, Cond.selects RX0 yX0_isClosedRight yX0_isClosedRight, Cond.code yX0_isClosedRight cX0_isClosedRight 6 (some .boolean), Cond.methodLink RX0 21 yX0_at, Cond.instanceMethod yX0_at, Cond.selects RX0 yX0_at yX0_at, Cond.code yX0_at cX0_at 2 (some .int), Cond.fieldLink RX0 15 "SampleTracker$Bank" "bytes" "[B", Cond.methodLink RX0 35 yX1_step, Cond.static yX1_step, Cond.initialized RX1, Cond.code yX1_step cX1_step 3 (some .int), Cond.fieldLink RX1 7 "SampleTracker$Crc" "OF_HALF_BYTE" "[I", Cond.methodLink RX0 29 yX0_number]
def wsX3_chooseBank_r2 : List Cond := [Cond.instanceMethod yX0_number, Cond.selects RX0 yX0_number yX0_number, Cond.code yX0_number cX0_number 6 (some .long), Cond.methodLink RX0 38 yX1_end, Cond.static yX1_end, Cond.code yX1_end cX1_end 1 (some .int), Cond.methodLink RX3 57 yX0_number]
def wsX3_chooseBank : List Cond := .code yX3_chooseBank cX3_chooseBank 4 none :: ((wsX3_chooseBank_r1 ++ wsX3_chooseBank_r2) ++ wsX30 ++ wsX00)
def wsX3_readNext_r1 : List Cond := [Cond.fieldLink RX3 9 "SampleTracker$Journal" "inUse" "I", Cond.fieldLink RX3 15 "SampleTracker$Journal" "end" "I", Cond.methodLink RX3 53 yX3_bank, Cond.instanceMethod yX3_bank, Cond.selects RX3 yX3_bank yX3_bank, Cond.initialized RX3, Cond.code yX3_bank cX3_bank 2 (some (.object "SampleTracker$Bank")), Cond.fieldLink RX3 27 "SampleTracker$Journal" "first" "LSampleTracker$Bank;", Cond.fieldLink RX3 31 "SampleTracker$Journal" "second" "LSampleTracker$Bank;", Cond.methodLink RX3 121 yX0_wholeRecordAt, Cond.instanceMethod yX0_wholeRecordAt, Cond.selects RX0 yX0_wholeRecordAt yX0_wholeRecordAt, Cond.initialized RX0, Cond.code yX0_wholeRecordAt cX0_wholeRecordAt 4 (some .int), Cond.fieldLink RX0 15 "SampleTracker$Bank" "bytes" "[B", Cond.methodLink RX0 29 yX0_number, Cond.instanceMethod yX0_number, Cond.selects RX0 yX0_number yX0_number, Cond.code yX0_number cX0_number 6 (some .long), Cond.methodLink RX0 21 yX0_at, Cond.instanceMethod yX0_at, Cond.selects RX0 yX0_at yX0_at, Cond.code yX0_at cX0_at 2 (some .int), Cond.methodLink RX0 25 yX0_isClosedRight]
def wsX3_readNext_r2 : List Cond := [Cond.instanceMethod yX0_isClosedRight, Cond.selects RX0 yX0_isClosedRight yX0_isClosedRight, Cond.code yX0_isClosedRight cX0_isClosedRight 6 (some .boolean), Cond.methodLink RX0 35 yX1_step, Cond.static yX1_step, Cond.initialized RX1, Cond.code yX1_step cX1_step 3 (some .int), Cond.fieldLink RX1 7 "SampleTracker$Crc" "OF_HALF_BYTE" "[I", Cond.methodLink RX0 38 yX1_end, Cond.static yX1_end, Cond.code yX1_end cX1_end 1 (some .int), Cond.methodLink RX3 124 yX2_readFrom, Cond.instanceMethod yX2_readFrom, Cond.selects RX2 yX2_readFrom yX2_readFrom, Cond.initialized RX2, Cond.code yX2_readFrom cX2_readFrom 4 none, Cond.fieldLink RX2 9 "SampleTracker$Entry" "kind" "I", Cond.fieldLink RX2 15 "SampleTracker$Entry" "sample" "I", Cond.fieldLink RX2 18 "SampleTracker$Entry" "well" "I", Cond.fieldLink RX2 21 "SampleTracker$Entry" "volume" "J", Cond.methodLink RX2 35 yX0_at, Cond.methodLink RX2 25 yX2_hasSample, Cond.instanceMethod yX2_hasSample, Cond.selects RX2 yX2_hasSample yX2_hasSample]
def wsX3_readNext_r3 : List Cond := [Cond.code yX2_hasSample cX2_hasSample 1 (some .boolean), Cond.methodLink RX2 41 yX0_number, Cond.methodLink RX2 29 yX2_hasWell, Cond.instanceMethod yX2_hasWell, Cond.selects RX2 yX2_hasWell yX2_hasWell, Cond.code yX2_hasWell cX2_hasWell 1 (some .boolean), Cond.methodLink RX2 32 yX2_hasVolume, Cond.instanceMethod yX2_hasVolume, Cond.selects RX2 yX2_hasVolume yX2_hasVolume, Cond.code yX2_hasVolume cX2_hasVolume 1 (some .boolean)]
def wsX3_readNext : List Cond := .code yX3_readNext cX3_readNext 3 (some .boolean) :: ((wsX3_readNext_r1 ++ (wsX3_readNext_r2 ++ wsX3_readNext_r3)) ++ wsX30 ++ wsX00 ++ wsX20)
def wsX3_blankTheRest : List Cond := .code yX3_blankTheRest cX3_blankTheRest 1 none :: ([.fieldLink RX3 9 "SampleTracker$Journal" "inUse" "I", .fieldLink RX3 15 "SampleTracker$Journal" "end" "I", .methodLink RX3 53 yX3_bank, .instanceMethod yX3_bank, .selects RX3 yX3_bank yX3_bank, .initialized RX3, .code yX3_bank cX3_bank 2 (some (.object "SampleTracker$Bank")), .fieldLink RX3 27 "SampleTracker$Journal" "first" "LSampleTracker$Bank;", .fieldLink RX3 31 "SampleTracker$Journal" "second" "LSampleTracker$Bank;", .methodLink RX3 127 yX0_blankFrom, .instanceMethod yX0_blankFrom, .selects RX0 yX0_blankFrom yX0_blankFrom, .initialized RX0, .code yX0_blankFrom cX0_blankFrom 3 none, .methodLink RX0 9 Lib.Math.max.name, .static Lib.Math.max.name, .initialized "java/lang/Math", .code Lib.Math.max.name Lib.Math.max.code 2 (some .int), .fieldLink RX0 15 "SampleTracker$Bank" "bytes" "[B"] ++ wsX30 ++ wsX00)
def wsX4_init : List Cond := .code yX4_init cX4_init 1 none :: ([.methodLink RX4 3 objectInit, .instanceMethod objectInit, .code objectInit ⟨#[0xb1]⟩ 1 none, .arrayClass .int, .fieldLink RX4 9 "SampleTracker$Past" "samples" "[I", .arrayClass .long, .fieldLink RX4 15 "SampleTracker$Past" "lost" "[J", .fieldLink RX4 19 "SampleTracker$Past" "touched" "[I", .fieldLink RX4 22 "SampleTracker$Past" "wells" "[I", .fieldLink RX4 25 "SampleTracker$Past" "volumes" "[J", .fieldLink RX4 28 "SampleTracker$Past" "size" "I"] ++ wsX40)
def wsX4_size : List Cond := .code yX4_size cX4_size 1 (some .int) :: ([.fieldLink RX4 28 "SampleTracker$Past" "size" "I"] ++ wsX40)
def wsX4_forget : List Cond := .code yX4_forget cX4_forget 1 none :: ([.fieldLink RX4 28 "SampleTracker$Past" "size" "I"] ++ wsX40)
def wsX4_add : List Cond := .code yX4_add cX4_add 8 none :: ([.fieldLink RX4 28 "SampleTracker$Past" "size" "I", .fieldLink RX4 9 "SampleTracker$Past" "samples" "[I", .fieldLink RX4 15 "SampleTracker$Past" "lost" "[J", .fieldLink RX4 19 "SampleTracker$Past" "touched" "[I", .fieldLink RX4 22 "SampleTracker$Past" "wells" "[I", .fieldLink RX4 25 "SampleTracker$Past" "volumes" "[J"] ++ wsX40)
def wsX4_stepBack : List Cond := .code yX4_stepBack cX4_stepBack 1 (some .boolean) :: ([.fieldLink RX4 28 "SampleTracker$Past" "size" "I"] ++ wsX40)
def wsX4_samplesBefore : List Cond := .code yX4_samplesBefore cX4_samplesBefore 1 (some .int) :: ([.fieldLink RX4 28 "SampleTracker$Past" "size" "I", .fieldLink RX4 9 "SampleTracker$Past" "samples" "[I"] ++ wsX40)
def wsX4_lostBefore : List Cond := .code yX4_lostBefore cX4_lostBefore 1 (some .long) :: ([.fieldLink RX4 28 "SampleTracker$Past" "size" "I", .fieldLink RX4 15 "SampleTracker$Past" "lost" "[J"] ++ wsX40)
def wsX4_touched : List Cond := .code yX4_touched cX4_touched 1 (some .int) :: ([.fieldLink RX4 28 "SampleTracker$Past" "size" "I", .fieldLink RX4 19 "SampleTracker$Past" "touched" "[I"] ++ wsX40)
def wsX4_wellBefore : List Cond := .code yX4_wellBefore cX4_wellBefore 1 (some .int) :: ([.fieldLink RX4 28 "SampleTracker$Past" "size" "I", .fieldLink RX4 22 "SampleTracker$Past" "wells" "[I"] ++ wsX40)
def wsX4_volumeBefore : List Cond := .code yX4_volumeBefore cX4_volumeBefore 1 (some .long) :: ([.fieldLink RX4 28 "SampleTracker$Past" "size" "I", .fieldLink RX4 25 "SampleTracker$Past" "volumes" "[J"] ++ wsX40)
def wsX6_bytesWritten : List Cond := .code yX6_bytesWritten cX6_bytesWritten 1 (some .int) :: ([.fieldLink RX6 20 "SampleTracker$Power" "written" "I"] ++ wsX60)
def wsX6_failures : List Cond := .code yX6_failures cX6_failures 1 (some .int) :: ([.fieldLink RX6 23 "SampleTracker$Power" "failed" "I"] ++ wsX60)
def wsX6_failBehind : List Cond := .code yX6_failBehind cX6_failBehind 2 none :: ([.fieldLink RX6 13 "SampleTracker$Power" "cutWaits" "Z", .fieldLink RX6 16 "SampleTracker$Power" "bytesLeft" "I"] ++ wsX60)
def wsX6_restore : List Cond := .code yX6_restore cX6_restore 1 none :: ([.fieldLink RX6 7 "SampleTracker$Power" "up" "Z", .fieldLink RX6 13 "SampleTracker$Power" "cutWaits" "Z"] ++ wsX60)
def wsX7_init_r1 : List Cond := [Cond.methodLink RX7 3 objectInit, Cond.instanceMethod objectInit, Cond.code objectInit ⟨#[0xb1]⟩ 1 none, Cond.arrayClass .int, Cond.fieldLink RX7 9 "SampleTracker$Table" "parents" "[I", Cond.fieldLink RX7 15 "SampleTracker$Table" "wells" "[I", Cond.arrayClass .long, Cond.fieldLink RX7 18 "SampleTracker$Table" "volumes" "[J", Cond.arrayClass .boolean, Cond.fieldLink RX7 22 "SampleTracker$Table" "inFamily" "[Z", Cond.classLink RX7 26 RX4, Cond.instantiable RX4 6, Cond.initialized RX4, Cond.fieldLink RX7 29 "SampleTracker$Table" "past" "LSampleTracker$Past;", Cond.fieldLink RX7 33 "SampleTracker$Table" "samples" "I", Cond.fieldLink RX7 37 "SampleTracker$Table" "lost" "J", Cond.instanceMethod yX4_init, Cond.code yX4_init cX4_init 1 none, Cond.methodLink RX4 3 objectInit, Cond.fieldLink RX4 9 "SampleTracker$Past" "samples" "[I", Cond.fieldLink RX4 15 "SampleTracker$Past" "lost" "[J", Cond.fieldLink RX4 19 "SampleTracker$Past" "touched" "[I", Cond.fieldLink RX4 22 "SampleTracker$Past" "wells" "[I", Cond.fieldLink RX4 25 "SampleTracker$Past" "volumes" "[J"]
def wsX7_init_r2 : List Cond := [Cond.fieldLink RX4 28 "SampleTracker$Past" "size" "I"]
def wsX7_init : List Cond := .code yX7_init cX7_init 1 none :: ((wsX7_init_r1 ++ wsX7_init_r2) ++ wsX70 ++ wsX40)
def wsX7_isFull : List Cond := .code yX7_isFull cX7_isFull 1 (some .boolean) :: ([.fieldLink RX7 33 "SampleTracker$Table" "samples" "I"] ++ wsX70)
def wsX8_isWell : List Cond := .code yX8_isWell cX8_isWell 1 (some .boolean) :: ([])
def wsX7_sampleIn : List Cond := .code yX7_sampleIn cX7_sampleIn 3 (some .int) :: ([.fieldLink RX7 33 "SampleTracker$Table" "samples" "I", .static yX8_isWell, .initialized RX8, .code yX8_isWell cX8_isWell 1 (some .boolean), .methodLink RX7 41 yX7_wellOf, .instanceMethod yX7_wellOf, .selects RX7 yX7_wellOf yX7_wellOf, .initialized RX7, .code yX7_wellOf cX7_wellOf 2 (some .int), .fieldLink RX7 15 "SampleTracker$Table" "wells" "[I", .methodLink RX7 45 yX7_isSample, .instanceMethod yX7_isSample, .selects RX7 yX7_isSample yX7_isSample, .code yX7_isSample cX7_isSample 2 (some .boolean)] ++ wsX70)
def wsX7_liveCount : List Cond := .code yX7_liveCount cX7_liveCount 3 (some .int) :: ([.fieldLink RX7 33 "SampleTracker$Table" "samples" "I", .methodLink RX7 54 yX7_isLive, .instanceMethod yX7_isLive, .selects RX7 yX7_isLive yX7_isLive, .initialized RX7, .code yX7_isLive cX7_isLive 2 (some .boolean), .methodLink RX7 41 yX7_wellOf, .instanceMethod yX7_wellOf, .selects RX7 yX7_wellOf yX7_wellOf, .code yX7_wellOf cX7_wellOf 2 (some .int), .fieldLink RX7 15 "SampleTracker$Table" "wells" "[I", .methodLink RX7 45 yX7_isSample, .instanceMethod yX7_isSample, .selects RX7 yX7_isSample yX7_isSample, .code yX7_isSample cX7_isSample 2 (some .boolean)] ++ wsX70)
def wsX7_childrenOf : List Cond := .code yX7_childrenOf cX7_childrenOf 4 (some .int) :: ([.fieldLink RX7 33 "SampleTracker$Table" "samples" "I", .methodLink RX7 57 yX7_parentOf, .instanceMethod yX7_parentOf, .selects RX7 yX7_parentOf yX7_parentOf, .initialized RX7, .code yX7_parentOf cX7_parentOf 2 (some .int), .fieldLink RX7 9 "SampleTracker$Table" "parents" "[I", .methodLink RX7 45 yX7_isSample, .instanceMethod yX7_isSample, .selects RX7 yX7_isSample yX7_isSample, .code yX7_isSample cX7_isSample 2 (some .boolean)] ++ wsX70)
def wsX7_stepsToOrigin : List Cond := .code yX7_stepsToOrigin cX7_stepsToOrigin 4 (some .int) :: ([.methodLink RX7 57 yX7_parentOf, .instanceMethod yX7_parentOf, .selects RX7 yX7_parentOf yX7_parentOf, .initialized RX7, .code yX7_parentOf cX7_parentOf 2 (some .int), .fieldLink RX7 9 "SampleTracker$Table" "parents" "[I", .methodLink RX7 45 yX7_isSample, .instanceMethod yX7_isSample, .selects RX7 yX7_isSample yX7_isSample, .code yX7_isSample cX7_isSample 2 (some .boolean), .fieldLink RX7 33 "SampleTracker$Table" "samples" "I"] ++ wsX70)
def wsX7_originOf : List Cond := .code yX7_originOf cX7_originOf 4 (some .int) :: ([.methodLink RX7 60 yX7_stepsToOrigin, .instanceMethod yX7_stepsToOrigin, .selects RX7 yX7_stepsToOrigin yX7_stepsToOrigin, .initialized RX7, .code yX7_stepsToOrigin cX7_stepsToOrigin 4 (some .int), .methodLink RX7 57 yX7_parentOf, .instanceMethod yX7_parentOf, .selects RX7 yX7_parentOf yX7_parentOf, .code yX7_parentOf cX7_parentOf 2 (some .int), .fieldLink RX7 9 "SampleTracker$Table" "parents" "[I", .methodLink RX7 45 yX7_isSample, .instanceMethod yX7_isSample, .selects RX7 yX7_isSample yX7_isSample, .code yX7_isSample cX7_isSample 2 (some .boolean), .fieldLink RX7 33 "SampleTracker$Table" "samples" "I"] ++ wsX70)
def wsX7_liveVolume : List Cond := .code yX7_liveVolume cX7_liveVolume 4 (some .long) :: ([.fieldLink RX7 33 "SampleTracker$Table" "samples" "I", .methodLink RX7 63 yX7_volumeOf, .instanceMethod yX7_volumeOf, .selects RX7 yX7_volumeOf yX7_volumeOf, .initialized RX7, .code yX7_volumeOf cX7_volumeOf 2 (some .long), .fieldLink RX7 18 "SampleTracker$Table" "volumes" "[J", .constantLong RX7 49 (-1), .methodLink RX7 45 yX7_isSample, .instanceMethod yX7_isSample, .selects RX7 yX7_isSample yX7_isSample, .code yX7_isSample cX7_isSample 2 (some .boolean)] ++ wsX70)
def wsX7_volumeStillAllowed : List Cond := .code yX7_volumeStillAllowed cX7_volumeStillAllowed 1 (some .long) :: ([.constantLong RX7 69 (9223372036854775807), .fieldLink RX7 37 "SampleTracker$Table" "lost" "J", .methodLink RX7 71 yX7_liveVolume, .instanceMethod yX7_liveVolume, .selects RX7 yX7_liveVolume yX7_liveVolume, .initialized RX7, .code yX7_liveVolume cX7_liveVolume 4 (some .long), .fieldLink RX7 33 "SampleTracker$Table" "samples" "I", .methodLink RX7 63 yX7_volumeOf, .instanceMethod yX7_volumeOf, .selects RX7 yX7_volumeOf yX7_volumeOf, .code yX7_volumeOf cX7_volumeOf 2 (some .long), .fieldLink RX7 18 "SampleTracker$Table" "volumes" "[J", .constantLong RX7 49 (-1), .methodLink RX7 45 yX7_isSample, .instanceMethod yX7_isSample, .selects RX7 yX7_isSample yX7_isSample, .code yX7_isSample cX7_isSample 2 (some .boolean)] ++ wsX70)
def wsX7_volumeOfFamily : List Cond := .code yX7_volumeOfFamily cX7_volumeOfFamily 6 (some .long) :: ([.constantLong RX7 49 (-1), .fieldLink RX7 33 "SampleTracker$Table" "samples" "I", .fieldLink RX7 22 "SampleTracker$Table" "inFamily" "[Z", .fieldLink RX7 18 "SampleTracker$Table" "volumes" "[J", .methodLink RX7 45 yX7_isSample, .instanceMethod yX7_isSample, .selects RX7 yX7_isSample yX7_isSample, .initialized RX7, .code yX7_isSample cX7_isSample 2 (some .boolean), .methodLink RX7 57 yX7_parentOf, .instanceMethod yX7_parentOf, .selects RX7 yX7_parentOf yX7_parentOf, .code yX7_parentOf cX7_parentOf 2 (some .int), .fieldLink RX7 9 "SampleTracker$Table" "parents" "[I"] ++ wsX70)
def wsX7_pastActs : List Cond := .code yX7_pastActs cX7_pastActs 1 (some .int) :: ([.fieldLink RX7 29 "SampleTracker$Table" "past" "LSampleTracker$Past;", .methodLink RX7 75 yX4_size, .instanceMethod yX4_size, .selects RX4 yX4_size yX4_size, .initialized RX4, .code yX4_size cX4_size 1 (some .int), .fieldLink RX4 28 "SampleTracker$Past" "size" "I"] ++ wsX70 ++ wsX40)
def wsX7_forgetPast : List Cond := .code yX7_forgetPast cX7_forgetPast 1 none :: ([.fieldLink RX7 29 "SampleTracker$Table" "past" "LSampleTracker$Past;", .methodLink RX7 79 yX4_forget, .instanceMethod yX4_forget, .selects RX4 yX4_forget yX4_forget, .initialized RX4, .code yX4_forget cX4_forget 1 none, .fieldLink RX4 28 "SampleTracker$Past" "size" "I"] ++ wsX70 ++ wsX40)
def wsX7_makeEmpty : List Cond := .code yX7_makeEmpty cX7_makeEmpty 1 none :: ([.fieldLink RX7 33 "SampleTracker$Table" "samples" "I", .fieldLink RX7 37 "SampleTracker$Table" "lost" "J", .fieldLink RX7 29 "SampleTracker$Table" "past" "LSampleTracker$Past;", .methodLink RX7 79 yX4_forget, .instanceMethod yX4_forget, .selects RX4 yX4_forget yX4_forget, .initialized RX4, .code yX4_forget cX4_forget 1 none, .fieldLink RX4 28 "SampleTracker$Past" "size" "I"] ++ wsX70 ++ wsX40)
def wsX7_remember_r1 : List Cond := [Cond.fieldLink RX7 29 "SampleTracker$Table" "past" "LSampleTracker$Past;", Cond.fieldLink RX7 33 "SampleTracker$Table" "samples" "I", Cond.fieldLink RX7 37 "SampleTracker$Table" "lost" "J", Cond.methodLink RX7 41 yX7_wellOf, Cond.instanceMethod yX7_wellOf, Cond.selects RX7 yX7_wellOf yX7_wellOf, Cond.initialized RX7, Cond.code yX7_wellOf cX7_wellOf 2 (some .int), Cond.fieldLink RX7 15 "SampleTracker$Table" "wells" "[I", Cond.methodLink RX7 45 yX7_isSample, Cond.instanceMethod yX7_isSample, Cond.selects RX7 yX7_isSample yX7_isSample, Cond.code yX7_isSample cX7_isSample 2 (some .boolean), Cond.methodLink RX7 63 yX7_volumeOf, Cond.instanceMethod yX7_volumeOf, Cond.selects RX7 yX7_volumeOf yX7_volumeOf, Cond.code yX7_volumeOf cX7_volumeOf 2 (some .long), Cond.fieldLink RX7 18 "SampleTracker$Table" "volumes" "[J", Cond.constantLong RX7 49 (-1), Cond.methodLink RX7 142 yX4_add, Cond.instanceMethod yX4_add, Cond.selects RX4 yX4_add yX4_add, Cond.initialized RX4, Cond.code yX4_add cX4_add 8 none]
def wsX7_remember_r2 : List Cond := [Cond.fieldLink RX4 28 "SampleTracker$Past" "size" "I", Cond.fieldLink RX4 9 "SampleTracker$Past" "samples" "[I", Cond.fieldLink RX4 15 "SampleTracker$Past" "lost" "[J", Cond.fieldLink RX4 19 "SampleTracker$Past" "touched" "[I", Cond.fieldLink RX4 22 "SampleTracker$Past" "wells" "[I", Cond.fieldLink RX4 25 "SampleTracker$Past" "volumes" "[J"]
def wsX7_remember : List Cond := .code yX7_remember cX7_remember 2 none :: ((wsX7_remember_r1 ++ wsX7_remember_r2) ++ wsX70 ++ wsX40)
def wsX7_addSample : List Cond := .code yX7_addSample cX7_addSample 5 none :: ([.fieldLink RX7 33 "SampleTracker$Table" "samples" "I", .fieldLink RX7 9 "SampleTracker$Table" "parents" "[I", .fieldLink RX7 15 "SampleTracker$Table" "wells" "[I", .fieldLink RX7 18 "SampleTracker$Table" "volumes" "[J", .methodLink RX7 146 yX7_isFull, .instanceMethod yX7_isFull, .selects RX7 yX7_isFull yX7_isFull, .initialized RX7, .code yX7_isFull cX7_isFull 1 (some .boolean)] ++ wsX70)
def wsX7_applyRegister_r1 : List Cond := [Cond.methodLink RX7 109 yX7_remember, Cond.instanceMethod yX7_remember, Cond.selects RX7 yX7_remember yX7_remember, Cond.initialized RX7, Cond.code yX7_remember cX7_remember 2 none, Cond.fieldLink RX7 29 "SampleTracker$Table" "past" "LSampleTracker$Past;", Cond.fieldLink RX7 33 "SampleTracker$Table" "samples" "I", Cond.fieldLink RX7 37 "SampleTracker$Table" "lost" "J", Cond.methodLink RX7 41 yX7_wellOf, Cond.instanceMethod yX7_wellOf, Cond.selects RX7 yX7_wellOf yX7_wellOf, Cond.code yX7_wellOf cX7_wellOf 2 (some .int), Cond.fieldLink RX7 15 "SampleTracker$Table" "wells" "[I", Cond.methodLink RX7 45 yX7_isSample, Cond.instanceMethod yX7_isSample, Cond.selects RX7 yX7_isSample yX7_isSample, Cond.code yX7_isSample cX7_isSample 2 (some .boolean), Cond.methodLink RX7 63 yX7_volumeOf, Cond.instanceMethod yX7_volumeOf, Cond.selects RX7 yX7_volumeOf yX7_volumeOf, Cond.code yX7_volumeOf cX7_volumeOf 2 (some .long), Cond.fieldLink RX7 18 "SampleTracker$Table" "volumes" "[J", Cond.constantLong RX7 49 (-1), Cond.methodLink RX7 142 yX4_add]
def wsX7_applyRegister_r2 : List Cond := [Cond.instanceMethod yX4_add, Cond.selects RX4 yX4_add yX4_add, Cond.initialized RX4, Cond.code yX4_add cX4_add 8 none, Cond.fieldLink RX4 28 "SampleTracker$Past" "size" "I", Cond.fieldLink RX4 9 "SampleTracker$Past" "samples" "[I", Cond.fieldLink RX4 15 "SampleTracker$Past" "lost" "[J", Cond.fieldLink RX4 19 "SampleTracker$Past" "touched" "[I", Cond.fieldLink RX4 22 "SampleTracker$Past" "wells" "[I", Cond.fieldLink RX4 25 "SampleTracker$Past" "volumes" "[J", Cond.methodLink RX7 116 yX7_addSample, Cond.instanceMethod yX7_addSample, Cond.selects RX7 yX7_addSample yX7_addSample, Cond.code yX7_addSample cX7_addSample 5 none, Cond.fieldLink RX7 9 "SampleTracker$Table" "parents" "[I", Cond.methodLink RX7 146 yX7_isFull, Cond.instanceMethod yX7_isFull, Cond.selects RX7 yX7_isFull yX7_isFull, Cond.code yX7_isFull cX7_isFull 1 (some .boolean)]
def wsX7_applyRegister : List Cond := .code yX7_applyRegister cX7_applyRegister 2 none :: ((wsX7_applyRegister_r1 ++ wsX7_applyRegister_r2) ++ wsX20 ++ wsX70 ++ wsX40)
def wsX7_applyAliquot_r1 : List Cond := [Cond.fieldLink RX7 18 "SampleTracker$Table" "volumes" "[J", Cond.methodLink RX7 45 yX7_isSample, Cond.instanceMethod yX7_isSample, Cond.selects RX7 yX7_isSample yX7_isSample, Cond.initialized RX7, Cond.code yX7_isSample cX7_isSample 2 (some .boolean), Cond.fieldLink RX7 33 "SampleTracker$Table" "samples" "I", Cond.methodLink RX7 109 yX7_remember, Cond.instanceMethod yX7_remember, Cond.selects RX7 yX7_remember yX7_remember, Cond.code yX7_remember cX7_remember 2 none, Cond.fieldLink RX7 29 "SampleTracker$Table" "past" "LSampleTracker$Past;", Cond.fieldLink RX7 37 "SampleTracker$Table" "lost" "J", Cond.methodLink RX7 41 yX7_wellOf, Cond.instanceMethod yX7_wellOf, Cond.selects RX7 yX7_wellOf yX7_wellOf, Cond.code yX7_wellOf cX7_wellOf 2 (some .int), Cond.fieldLink RX7 15 "SampleTracker$Table" "wells" "[I", Cond.methodLink RX7 63 yX7_volumeOf, Cond.instanceMethod yX7_volumeOf, Cond.selects RX7 yX7_volumeOf yX7_volumeOf, Cond.code yX7_volumeOf cX7_volumeOf 2 (some .long), Cond.constantLong RX7 49 (-1), Cond.methodLink RX7 142 yX4_add]
def wsX7_applyAliquot_r2 : List Cond := [Cond.instanceMethod yX4_add, Cond.selects RX4 yX4_add yX4_add, Cond.initialized RX4, Cond.code yX4_add cX4_add 8 none, Cond.fieldLink RX4 28 "SampleTracker$Past" "size" "I", Cond.fieldLink RX4 9 "SampleTracker$Past" "samples" "[I", Cond.fieldLink RX4 15 "SampleTracker$Past" "lost" "[J", Cond.fieldLink RX4 19 "SampleTracker$Past" "touched" "[I", Cond.fieldLink RX4 22 "SampleTracker$Past" "wells" "[I", Cond.fieldLink RX4 25 "SampleTracker$Past" "volumes" "[J", Cond.methodLink RX7 116 yX7_addSample, Cond.instanceMethod yX7_addSample, Cond.selects RX7 yX7_addSample yX7_addSample, Cond.code yX7_addSample cX7_addSample 5 none, Cond.fieldLink RX7 9 "SampleTracker$Table" "parents" "[I", Cond.methodLink RX7 146 yX7_isFull, Cond.instanceMethod yX7_isFull, Cond.selects RX7 yX7_isFull yX7_isFull, Cond.code yX7_isFull cX7_isFull 1 (some .boolean)]
def wsX7_applyAliquot : List Cond := .code yX7_applyAliquot cX7_applyAliquot 2 none :: ((wsX7_applyAliquot_r1 ++ wsX7_applyAliquot_r2) ++ wsX20 ++ wsX70 ++ wsX40)
def wsX7_applyMove_r1 : List Cond := [Cond.fieldLink RX7 15 "SampleTracker$Table" "wells" "[I", Cond.methodLink RX7 45 yX7_isSample, Cond.instanceMethod yX7_isSample, Cond.selects RX7 yX7_isSample yX7_isSample, Cond.initialized RX7, Cond.code yX7_isSample cX7_isSample 2 (some .boolean), Cond.fieldLink RX7 33 "SampleTracker$Table" "samples" "I", Cond.methodLink RX7 109 yX7_remember, Cond.instanceMethod yX7_remember, Cond.selects RX7 yX7_remember yX7_remember, Cond.code yX7_remember cX7_remember 2 none, Cond.fieldLink RX7 29 "SampleTracker$Table" "past" "LSampleTracker$Past;", Cond.fieldLink RX7 37 "SampleTracker$Table" "lost" "J", Cond.methodLink RX7 41 yX7_wellOf, Cond.instanceMethod yX7_wellOf, Cond.selects RX7 yX7_wellOf yX7_wellOf, Cond.code yX7_wellOf cX7_wellOf 2 (some .int), Cond.methodLink RX7 63 yX7_volumeOf, Cond.instanceMethod yX7_volumeOf, Cond.selects RX7 yX7_volumeOf yX7_volumeOf, Cond.code yX7_volumeOf cX7_volumeOf 2 (some .long), Cond.fieldLink RX7 18 "SampleTracker$Table" "volumes" "[J", Cond.constantLong RX7 49 (-1), Cond.methodLink RX7 142 yX4_add]
def wsX7_applyMove_r2 : List Cond := [Cond.instanceMethod yX4_add, Cond.selects RX4 yX4_add yX4_add, Cond.initialized RX4, Cond.code yX4_add cX4_add 8 none, Cond.fieldLink RX4 28 "SampleTracker$Past" "size" "I", Cond.fieldLink RX4 9 "SampleTracker$Past" "samples" "[I", Cond.fieldLink RX4 15 "SampleTracker$Past" "lost" "[J", Cond.fieldLink RX4 19 "SampleTracker$Past" "touched" "[I", Cond.fieldLink RX4 22 "SampleTracker$Past" "wells" "[I", Cond.fieldLink RX4 25 "SampleTracker$Past" "volumes" "[J"]
def wsX7_applyMove : List Cond := .code yX7_applyMove cX7_applyMove 2 none :: ((wsX7_applyMove_r1 ++ wsX7_applyMove_r2) ++ wsX20 ++ wsX70 ++ wsX40)
def wsX7_applyDiscard_r1 : List Cond := [Cond.fieldLink RX7 37 "SampleTracker$Table" "lost" "J", Cond.fieldLink RX7 18 "SampleTracker$Table" "volumes" "[J", Cond.fieldLink RX7 15 "SampleTracker$Table" "wells" "[I", Cond.methodLink RX7 45 yX7_isSample, Cond.instanceMethod yX7_isSample, Cond.selects RX7 yX7_isSample yX7_isSample, Cond.initialized RX7, Cond.code yX7_isSample cX7_isSample 2 (some .boolean), Cond.fieldLink RX7 33 "SampleTracker$Table" "samples" "I", Cond.methodLink RX7 109 yX7_remember, Cond.instanceMethod yX7_remember, Cond.selects RX7 yX7_remember yX7_remember, Cond.code yX7_remember cX7_remember 2 none, Cond.fieldLink RX7 29 "SampleTracker$Table" "past" "LSampleTracker$Past;", Cond.methodLink RX7 41 yX7_wellOf, Cond.instanceMethod yX7_wellOf, Cond.selects RX7 yX7_wellOf yX7_wellOf, Cond.code yX7_wellOf cX7_wellOf 2 (some .int), Cond.methodLink RX7 63 yX7_volumeOf, Cond.instanceMethod yX7_volumeOf, Cond.selects RX7 yX7_volumeOf yX7_volumeOf, Cond.code yX7_volumeOf cX7_volumeOf 2 (some .long), Cond.constantLong RX7 49 (-1), Cond.methodLink RX7 142 yX4_add]
def wsX7_applyDiscard_r2 : List Cond := [Cond.instanceMethod yX4_add, Cond.selects RX4 yX4_add yX4_add, Cond.initialized RX4, Cond.code yX4_add cX4_add 8 none, Cond.fieldLink RX4 28 "SampleTracker$Past" "size" "I", Cond.fieldLink RX4 9 "SampleTracker$Past" "samples" "[I", Cond.fieldLink RX4 15 "SampleTracker$Past" "lost" "[J", Cond.fieldLink RX4 19 "SampleTracker$Past" "touched" "[I", Cond.fieldLink RX4 22 "SampleTracker$Past" "wells" "[I", Cond.fieldLink RX4 25 "SampleTracker$Past" "volumes" "[J"]
def wsX7_applyDiscard : List Cond := .code yX7_applyDiscard cX7_applyDiscard 2 none :: ((wsX7_applyDiscard_r1 ++ wsX7_applyDiscard_r2) ++ wsX20 ++ wsX70 ++ wsX40)
def wsX7_applyUndo_r1 : List Cond := [Cond.fieldLink RX7 29 "SampleTracker$Table" "past" "LSampleTracker$Past;", Cond.fieldLink RX7 33 "SampleTracker$Table" "samples" "I", Cond.fieldLink RX7 37 "SampleTracker$Table" "lost" "J", Cond.fieldLink RX7 15 "SampleTracker$Table" "wells" "[I", Cond.fieldLink RX7 18 "SampleTracker$Table" "volumes" "[J", Cond.methodLink RX7 123 yX4_stepBack, Cond.instanceMethod yX4_stepBack, Cond.selects RX4 yX4_stepBack yX4_stepBack, Cond.initialized RX4, Cond.code yX4_stepBack cX4_stepBack 1 (some .boolean), Cond.fieldLink RX4 28 "SampleTracker$Past" "size" "I", Cond.methodLink RX7 127 yX4_samplesBefore, Cond.instanceMethod yX4_samplesBefore, Cond.selects RX4 yX4_samplesBefore yX4_samplesBefore, Cond.code yX4_samplesBefore cX4_samplesBefore 1 (some .int), Cond.fieldLink RX4 9 "SampleTracker$Past" "samples" "[I", Cond.methodLink RX7 130 yX4_lostBefore, Cond.instanceMethod yX4_lostBefore, Cond.selects RX4 yX4_lostBefore yX4_lostBefore, Cond.code yX4_lostBefore cX4_lostBefore 1 (some .long), Cond.fieldLink RX4 15 "SampleTracker$Past" "lost" "[J", Cond.methodLink RX7 133 yX4_touched, Cond.instanceMethod yX4_touched, Cond.selects RX4 yX4_touched yX4_touched]
def wsX7_applyUndo_r2 : List Cond := [Cond.code yX4_touched cX4_touched 1 (some .int), Cond.fieldLink RX4 19 "SampleTracker$Past" "touched" "[I", Cond.methodLink RX7 45 yX7_isSample, Cond.instanceMethod yX7_isSample, Cond.selects RX7 yX7_isSample yX7_isSample, Cond.initialized RX7, Cond.code yX7_isSample cX7_isSample 2 (some .boolean), Cond.methodLink RX7 136 yX4_wellBefore, Cond.instanceMethod yX4_wellBefore, Cond.selects RX4 yX4_wellBefore yX4_wellBefore, Cond.code yX4_wellBefore cX4_wellBefore 1 (some .int), Cond.fieldLink RX4 22 "SampleTracker$Past" "wells" "[I", Cond.methodLink RX7 139 yX4_volumeBefore, Cond.instanceMethod yX4_volumeBefore, Cond.selects RX4 yX4_volumeBefore yX4_volumeBefore, Cond.code yX4_volumeBefore cX4_volumeBefore 1 (some .long), Cond.fieldLink RX4 25 "SampleTracker$Past" "volumes" "[J"]
def wsX7_applyUndo : List Cond := .code yX7_applyUndo cX7_applyUndo 2 none :: ((wsX7_applyUndo_r1 ++ wsX7_applyUndo_r2) ++ wsX70 ++ wsX40)
def wsX7_applyKept : List Cond := .code yX7_applyKept cX7_applyKept 2 none :: ([.methodLink RX7 116 yX7_addSample, .instanceMethod yX7_addSample, .selects RX7 yX7_addSample yX7_addSample, .initialized RX7, .code yX7_addSample cX7_addSample 5 none, .fieldLink RX7 33 "SampleTracker$Table" "samples" "I", .fieldLink RX7 9 "SampleTracker$Table" "parents" "[I", .fieldLink RX7 15 "SampleTracker$Table" "wells" "[I", .fieldLink RX7 18 "SampleTracker$Table" "volumes" "[J", .methodLink RX7 146 yX7_isFull, .instanceMethod yX7_isFull, .selects RX7 yX7_isFull yX7_isFull, .code yX7_isFull cX7_isFull 1 (some .boolean)] ++ wsX20 ++ wsX70)
def wsX7_apply_r1 : List Cond := [Cond.fieldLink RX7 37 "SampleTracker$Table" "lost" "J", Cond.methodLink RX7 87 yX7_applyRegister, Cond.instanceMethod yX7_applyRegister, Cond.selects RX7 yX7_applyRegister yX7_applyRegister, Cond.initialized RX7, Cond.code yX7_applyRegister cX7_applyRegister 2 none, Cond.methodLink RX7 109 yX7_remember, Cond.instanceMethod yX7_remember, Cond.selects RX7 yX7_remember yX7_remember, Cond.code yX7_remember cX7_remember 2 none, Cond.fieldLink RX7 29 "SampleTracker$Table" "past" "LSampleTracker$Past;", Cond.fieldLink RX7 33 "SampleTracker$Table" "samples" "I", Cond.methodLink RX7 41 yX7_wellOf, Cond.instanceMethod yX7_wellOf, Cond.selects RX7 yX7_wellOf yX7_wellOf, Cond.code yX7_wellOf cX7_wellOf 2 (some .int), Cond.fieldLink RX7 15 "SampleTracker$Table" "wells" "[I", Cond.methodLink RX7 45 yX7_isSample, Cond.instanceMethod yX7_isSample, Cond.selects RX7 yX7_isSample yX7_isSample, Cond.code yX7_isSample cX7_isSample 2 (some .boolean), Cond.methodLink RX7 63 yX7_volumeOf, Cond.instanceMethod yX7_volumeOf, Cond.selects RX7 yX7_volumeOf yX7_volumeOf]
def wsX7_apply_r2 : List Cond := [Cond.code yX7_volumeOf cX7_volumeOf 2 (some .long), Cond.fieldLink RX7 18 "SampleTracker$Table" "volumes" "[J", Cond.constantLong RX7 49 (-1), Cond.methodLink RX7 142 yX4_add, Cond.instanceMethod yX4_add, Cond.selects RX4 yX4_add yX4_add, Cond.initialized RX4, Cond.code yX4_add cX4_add 8 none, Cond.fieldLink RX4 28 "SampleTracker$Past" "size" "I", Cond.fieldLink RX4 9 "SampleTracker$Past" "samples" "[I", Cond.fieldLink RX4 15 "SampleTracker$Past" "lost" "[J", Cond.fieldLink RX4 19 "SampleTracker$Past" "touched" "[I", Cond.fieldLink RX4 22 "SampleTracker$Past" "wells" "[I", Cond.fieldLink RX4 25 "SampleTracker$Past" "volumes" "[J", Cond.methodLink RX7 116 yX7_addSample, Cond.instanceMethod yX7_addSample, Cond.selects RX7 yX7_addSample yX7_addSample, Cond.code yX7_addSample cX7_addSample 5 none, Cond.fieldLink RX7 9 "SampleTracker$Table" "parents" "[I", Cond.methodLink RX7 146 yX7_isFull, Cond.instanceMethod yX7_isFull, Cond.selects RX7 yX7_isFull yX7_isFull, Cond.code yX7_isFull cX7_isFull 1 (some .boolean), Cond.methodLink RX7 91 yX7_applyAliquot]
def wsX7_apply_r3 : List Cond := [Cond.instanceMethod yX7_applyAliquot, Cond.selects RX7 yX7_applyAliquot yX7_applyAliquot, Cond.code yX7_applyAliquot cX7_applyAliquot 2 none, Cond.methodLink RX7 94 yX7_applyMove, Cond.instanceMethod yX7_applyMove, Cond.selects RX7 yX7_applyMove yX7_applyMove, Cond.code yX7_applyMove cX7_applyMove 2 none, Cond.methodLink RX7 97 yX7_applyDiscard, Cond.instanceMethod yX7_applyDiscard, Cond.selects RX7 yX7_applyDiscard yX7_applyDiscard, Cond.code yX7_applyDiscard cX7_applyDiscard 2 none, Cond.methodLink RX7 100 yX7_applyUndo, Cond.instanceMethod yX7_applyUndo, Cond.selects RX7 yX7_applyUndo yX7_applyUndo, Cond.code yX7_applyUndo cX7_applyUndo 2 none, Cond.methodLink RX7 123 yX4_stepBack, Cond.instanceMethod yX4_stepBack, Cond.selects RX4 yX4_stepBack yX4_stepBack, Cond.code yX4_stepBack cX4_stepBack 1 (some .boolean), Cond.methodLink RX7 127 yX4_samplesBefore, Cond.instanceMethod yX4_samplesBefore, Cond.selects RX4 yX4_samplesBefore yX4_samplesBefore, Cond.code yX4_samplesBefore cX4_samplesBefore 1 (some .int), Cond.methodLink RX7 130 yX4_lostBefore]
def wsX7_apply_r4 : List Cond := [Cond.instanceMethod yX4_lostBefore, Cond.selects RX4 yX4_lostBefore yX4_lostBefore, Cond.code yX4_lostBefore cX4_lostBefore 1 (some .long), Cond.methodLink RX7 133 yX4_touched, Cond.instanceMethod yX4_touched, Cond.selects RX4 yX4_touched yX4_touched, Cond.code yX4_touched cX4_touched 1 (some .int), Cond.methodLink RX7 136 yX4_wellBefore, Cond.instanceMethod yX4_wellBefore, Cond.selects RX4 yX4_wellBefore yX4_wellBefore, Cond.code yX4_wellBefore cX4_wellBefore 1 (some .int), Cond.methodLink RX7 139 yX4_volumeBefore, Cond.instanceMethod yX4_volumeBefore, Cond.selects RX4 yX4_volumeBefore yX4_volumeBefore, Cond.code yX4_volumeBefore cX4_volumeBefore 1 (some .long), Cond.methodLink RX7 103 yX7_applyKept, Cond.instanceMethod yX7_applyKept, Cond.selects RX7 yX7_applyKept yX7_applyKept, Cond.code yX7_applyKept cX7_applyKept 2 none]
def wsX7_apply : List Cond := .code yX7_apply cX7_apply 2 none :: ((wsX7_apply_r1 ++ (wsX7_apply_r2 ++ (wsX7_apply_r3 ++ wsX7_apply_r4))) ++ wsX20 ++ wsX70 ++ wsX40)
def wsX8_init_r1 : List Cond := [Cond.methodLink RX8 3 objectInit, Cond.instanceMethod objectInit, Cond.code objectInit ⟨#[0xb1]⟩ 1 none, Cond.classLink RX8 9 RX6, Cond.instantiable RX6 5, Cond.initialized RX6, Cond.fieldLink RX8 12 "SampleTracker" "power" "LSampleTracker$Power;", Cond.classLink RX8 16 RX3, Cond.instantiable RX3 6, Cond.initialized RX3, Cond.methodLink RX8 18 Lib.Math.min.name, Cond.static Lib.Math.min.name, Cond.initialized "java/lang/Math", Cond.code Lib.Math.min.name Lib.Math.min.code 2 (some .int), Cond.methodLink RX8 24 Lib.Math.max.name, Cond.static Lib.Math.max.name, Cond.code Lib.Math.max.name Lib.Math.max.code 2 (some .int), Cond.fieldLink RX8 30 "SampleTracker" "journal" "LSampleTracker$Journal;", Cond.classLink RX8 34 RX7, Cond.instantiable RX7 7, Cond.initialized RX7, Cond.fieldLink RX8 37 "SampleTracker" "table" "LSampleTracker$Table;", Cond.classLink RX8 41 RX2, Cond.instantiable RX2 4]
def wsX8_init_r2 : List Cond := [Cond.initialized RX2, Cond.fieldLink RX8 44 "SampleTracker" "entry" "LSampleTracker$Entry;", Cond.instanceMethod yX6_init, Cond.code yX6_init cX6_init 1 none, Cond.methodLink RX6 1 objectInit, Cond.fieldLink RX6 7 "SampleTracker$Power" "up" "Z", Cond.fieldLink RX6 13 "SampleTracker$Power" "cutWaits" "Z", Cond.fieldLink RX6 16 "SampleTracker$Power" "bytesLeft" "I", Cond.fieldLink RX6 20 "SampleTracker$Power" "written" "I", Cond.fieldLink RX6 23 "SampleTracker$Power" "failed" "I", Cond.methodLink RX8 27 yX3_init, Cond.instanceMethod yX3_init, Cond.code yX3_init cX3_init 4 none, Cond.methodLink RX3 3 objectInit, Cond.fieldLink RX3 9 "SampleTracker$Journal" "inUse" "I", Cond.fieldLink RX3 15 "SampleTracker$Journal" "end" "I", Cond.fieldLink RX3 18 "SampleTracker$Journal" "power" "LSampleTracker$Power;", Cond.classLink RX3 22 RX0, Cond.instantiable RX0 1, Cond.initialized RX0, Cond.fieldLink RX3 27 "SampleTracker$Journal" "first" "LSampleTracker$Bank;", Cond.fieldLink RX3 31 "SampleTracker$Journal" "second" "LSampleTracker$Bank;", Cond.classLink RX3 34 RX5, Cond.instantiable RX5 4]
def wsX8_init_r3 : List Cond := [Cond.initialized RX5, Cond.fieldLink RX3 39 "SampleTracker$Journal" "pen" "LSampleTracker$Pen;", Cond.classLink RX3 43 RX6, Cond.methodLink RX3 24 yX0_init, Cond.instanceMethod yX0_init, Cond.code yX0_init cX0_init 2 none, Cond.methodLink RX0 3 objectInit, Cond.methodLink RX0 9 Lib.Math.max.name, Cond.arrayClass .byte, Cond.fieldLink RX0 15 "SampleTracker$Bank" "bytes" "[B", Cond.methodLink RX3 36 yX5_init, Cond.instanceMethod yX5_init, Cond.code yX5_init cX5_init 3 none, Cond.methodLink RX5 3 objectInit, Cond.fieldLink RX5 9 "SampleTracker$Pen" "position" "I", Cond.fieldLink RX5 17 "SampleTracker$Pen" "crc" "I", Cond.fieldLink RX5 20 "SampleTracker$Pen" "power" "LSampleTracker$Power;", Cond.fieldLink RX5 24 "SampleTracker$Pen" "bank" "LSampleTracker$Bank;", Cond.methodLink RX3 46 yX5_writeHead, Cond.instanceMethod yX5_writeHead, Cond.selects RX5 yX5_writeHead yX5_writeHead, Cond.code yX5_writeHead cX5_writeHead 2 none, Cond.methodLink RX5 32 yX5_writeNumber, Cond.instanceMethod yX5_writeNumber]
def wsX8_init_r4 : List Cond := [Cond.selects RX5 yX5_writeNumber yX5_writeNumber, Cond.code yX5_writeNumber cX5_writeNumber 6 none, Cond.methodLink RX5 69 yX1_step, Cond.static yX1_step, Cond.initialized RX1, Cond.code yX1_step cX1_step 3 (some .int), Cond.fieldLink RX1 7 "SampleTracker$Crc" "OF_HALF_BYTE" "[I", Cond.methodLink RX5 28 yX5_writeByte, Cond.instanceMethod yX5_writeByte, Cond.selects RX5 yX5_writeByte yX5_writeByte, Cond.code yX5_writeByte cX5_writeByte 2 none, Cond.methodLink RX5 73 yX6_letByteThrough, Cond.instanceMethod yX6_letByteThrough, Cond.selects RX6 yX6_letByteThrough yX6_letByteThrough, Cond.code yX6_letByteThrough cX6_letByteThrough 2 (some .boolean), Cond.methodLink RX5 78 yX0_put, Cond.instanceMethod yX0_put, Cond.selects RX0 yX0_put yX0_put, Cond.code yX0_put cX0_put 3 none, Cond.methodLink RX5 36 yX1_end, Cond.static yX1_end, Cond.code yX1_end cX1_end 1 (some .int), Cond.instanceMethod yX7_init, Cond.code yX7_init cX7_init 1 none]
def wsX8_init_r5 : List Cond := [Cond.methodLink RX7 3 objectInit, Cond.arrayClass .int, Cond.fieldLink RX7 9 "SampleTracker$Table" "parents" "[I", Cond.fieldLink RX7 15 "SampleTracker$Table" "wells" "[I", Cond.arrayClass .long, Cond.fieldLink RX7 18 "SampleTracker$Table" "volumes" "[J", Cond.arrayClass .boolean, Cond.fieldLink RX7 22 "SampleTracker$Table" "inFamily" "[Z", Cond.classLink RX7 26 RX4, Cond.instantiable RX4 6, Cond.initialized RX4, Cond.fieldLink RX7 29 "SampleTracker$Table" "past" "LSampleTracker$Past;", Cond.fieldLink RX7 33 "SampleTracker$Table" "samples" "I", Cond.fieldLink RX7 37 "SampleTracker$Table" "lost" "J", Cond.instanceMethod yX4_init, Cond.code yX4_init cX4_init 1 none, Cond.methodLink RX4 3 objectInit, Cond.fieldLink RX4 9 "SampleTracker$Past" "samples" "[I", Cond.fieldLink RX4 15 "SampleTracker$Past" "lost" "[J", Cond.fieldLink RX4 19 "SampleTracker$Past" "touched" "[I", Cond.fieldLink RX4 22 "SampleTracker$Past" "wells" "[I", Cond.fieldLink RX4 25 "SampleTracker$Past" "volumes" "[J", Cond.fieldLink RX4 28 "SampleTracker$Past" "size" "I", Cond.instanceMethod yX2_init]
def wsX8_init_r6 : List Cond := [Cond.code yX2_init cX2_init 1 none, Cond.methodLink RX2 3 objectInit, Cond.fieldLink RX2 9 "SampleTracker$Entry" "kind" "I", Cond.fieldLink RX2 15 "SampleTracker$Entry" "sample" "I", Cond.fieldLink RX2 18 "SampleTracker$Entry" "well" "I", Cond.fieldLink RX2 21 "SampleTracker$Entry" "volume" "J"]
def wsX8_init : List Cond := .code yX8_init cX8_init 2 none :: ((wsX8_init_r1 ++ (wsX8_init_r2 ++ (wsX8_init_r3 ++ (wsX8_init_r4 ++ (wsX8_init_r5 ++ wsX8_init_r6))))) ++ wsX60 ++ wsX80 ++ wsX30 ++ wsX70 ++ wsX20 ++ wsX00 ++ wsX50 ++ wsX40)
def wsX8_refusalOfWell_r1 : List Cond := [Cond.fieldLink RX8 12 "SampleTracker" "power" "LSampleTracker$Power;", Cond.fieldLink RX8 44 "SampleTracker" "entry" "LSampleTracker$Entry;", Cond.fieldLink RX8 37 "SampleTracker" "table" "LSampleTracker$Table;", Cond.methodLink RX8 83 yX6_isUp, Cond.instanceMethod yX6_isUp, Cond.selects RX6 yX6_isUp yX6_isUp, Cond.initialized RX6, Cond.code yX6_isUp cX6_isUp 1 (some .boolean), Cond.fieldLink RX6 7 "SampleTracker$Power" "up" "Z", Cond.methodLink RX8 200 yX8_isWell, Cond.static yX8_isWell, Cond.initialized RX8, Cond.code yX8_isWell cX8_isWell 1 (some .boolean), Cond.methodLink RX8 153 yX7_sampleIn, Cond.instanceMethod yX7_sampleIn, Cond.selects RX7 yX7_sampleIn yX7_sampleIn, Cond.initialized RX7, Cond.code yX7_sampleIn cX7_sampleIn 3 (some .int), Cond.fieldLink RX7 33 "SampleTracker$Table" "samples" "I", Cond.methodLink RX7 41 yX7_wellOf, Cond.instanceMethod yX7_wellOf, Cond.selects RX7 yX7_wellOf yX7_wellOf, Cond.code yX7_wellOf cX7_wellOf 2 (some .int), Cond.fieldLink RX7 15 "SampleTracker$Table" "wells" "[I"]
def wsX8_refusalOfWell_r2 : List Cond := [Cond.methodLink RX7 45 yX7_isSample, Cond.instanceMethod yX7_isSample, Cond.selects RX7 yX7_isSample yX7_isSample, Cond.code yX7_isSample cX7_isSample 2 (some .boolean)]
def wsX8_refusalOfWell : List Cond := .code yX8_refusalOfWell cX8_refusalOfWell 2 (some .int) :: ((wsX8_refusalOfWell_r1 ++ wsX8_refusalOfWell_r2) ++ wsX80 ++ wsX20 ++ wsX60 ++ wsX70)
def wsX8_refusalOfRoom_r1 : List Cond := [Cond.fieldLink RX8 30 "SampleTracker" "journal" "LSampleTracker$Journal;", Cond.fieldLink RX8 44 "SampleTracker" "entry" "LSampleTracker$Entry;", Cond.methodLink RX8 203 yX3_hasRoomFor, Cond.instanceMethod yX3_hasRoomFor, Cond.selects RX3 yX3_hasRoomFor yX3_hasRoomFor, Cond.initialized RX3, Cond.code yX3_hasRoomFor cX3_hasRoomFor 2 (some .boolean), Cond.fieldLink RX3 15 "SampleTracker$Journal" "end" "I", Cond.methodLink RX3 61 yX2_length, Cond.instanceMethod yX2_length, Cond.selects RX2 yX2_length yX2_length, Cond.initialized RX2, Cond.code yX2_length cX2_length 1 (some .int), Cond.methodLink RX2 25 yX2_hasSample, Cond.instanceMethod yX2_hasSample, Cond.selects RX2 yX2_hasSample yX2_hasSample, Cond.code yX2_hasSample cX2_hasSample 1 (some .boolean), Cond.fieldLink RX2 9 "SampleTracker$Entry" "kind" "I", Cond.methodLink RX2 29 yX2_hasWell, Cond.instanceMethod yX2_hasWell, Cond.selects RX2 yX2_hasWell yX2_hasWell, Cond.code yX2_hasWell cX2_hasWell 1 (some .boolean), Cond.methodLink RX2 32 yX2_hasVolume, Cond.instanceMethod yX2_hasVolume]
def wsX8_refusalOfRoom_r2 : List Cond := [Cond.selects RX2 yX2_hasVolume yX2_hasVolume, Cond.code yX2_hasVolume cX2_hasVolume 1 (some .boolean), Cond.methodLink RX3 66 yX3_bankBytes, Cond.instanceMethod yX3_bankBytes, Cond.selects RX3 yX3_bankBytes yX3_bankBytes, Cond.code yX3_bankBytes cX3_bankBytes 1 (some .int), Cond.fieldLink RX3 27 "SampleTracker$Journal" "first" "LSampleTracker$Bank;", Cond.methodLink RX3 49 yX0_size, Cond.instanceMethod yX0_size, Cond.selects RX0 yX0_size yX0_size, Cond.initialized RX0, Cond.code yX0_size cX0_size 1 (some .int), Cond.fieldLink RX0 15 "SampleTracker$Bank" "bytes" "[B"]
def wsX8_refusalOfRoom : List Cond := .code yX8_refusalOfRoom cX8_refusalOfRoom 1 (some .int) :: ((wsX8_refusalOfRoom_r1 ++ wsX8_refusalOfRoom_r2) ++ wsX80 ++ wsX30 ++ wsX20 ++ wsX00)
def wsX8_refusalOfNewSample_r1 : List Cond := [Cond.fieldLink RX8 44 "SampleTracker" "entry" "LSampleTracker$Entry;", Cond.fieldLink RX8 37 "SampleTracker" "table" "LSampleTracker$Table;", Cond.methodLink RX8 76 yX8_refusalOfWell, Cond.instanceMethod yX8_refusalOfWell, Cond.selects RX8 yX8_refusalOfWell yX8_refusalOfWell, Cond.initialized RX8, Cond.code yX8_refusalOfWell cX8_refusalOfWell 2 (some .int), Cond.fieldLink RX8 12 "SampleTracker" "power" "LSampleTracker$Power;", Cond.methodLink RX8 83 yX6_isUp, Cond.instanceMethod yX6_isUp, Cond.selects RX6 yX6_isUp yX6_isUp, Cond.initialized RX6, Cond.code yX6_isUp cX6_isUp 1 (some .boolean), Cond.fieldLink RX6 7 "SampleTracker$Power" "up" "Z", Cond.methodLink RX8 200 yX8_isWell, Cond.static yX8_isWell, Cond.code yX8_isWell cX8_isWell 1 (some .boolean), Cond.methodLink RX8 153 yX7_sampleIn, Cond.instanceMethod yX7_sampleIn, Cond.selects RX7 yX7_sampleIn yX7_sampleIn, Cond.initialized RX7, Cond.code yX7_sampleIn cX7_sampleIn 3 (some .int), Cond.fieldLink RX7 33 "SampleTracker$Table" "samples" "I", Cond.methodLink RX7 41 yX7_wellOf]
def wsX8_refusalOfNewSample_r2 : List Cond := [Cond.instanceMethod yX7_wellOf, Cond.selects RX7 yX7_wellOf yX7_wellOf, Cond.code yX7_wellOf cX7_wellOf 2 (some .int), Cond.fieldLink RX7 15 "SampleTracker$Table" "wells" "[I", Cond.methodLink RX7 45 yX7_isSample, Cond.instanceMethod yX7_isSample, Cond.selects RX7 yX7_isSample yX7_isSample, Cond.code yX7_isSample cX7_isSample 2 (some .boolean), Cond.methodLink RX8 193 yX7_isFull, Cond.instanceMethod yX7_isFull, Cond.selects RX7 yX7_isFull yX7_isFull, Cond.code yX7_isFull cX7_isFull 1 (some .boolean), Cond.methodLink RX8 80 yX8_refusalOfRoom, Cond.instanceMethod yX8_refusalOfRoom, Cond.selects RX8 yX8_refusalOfRoom yX8_refusalOfRoom, Cond.code yX8_refusalOfRoom cX8_refusalOfRoom 1 (some .int), Cond.fieldLink RX8 30 "SampleTracker" "journal" "LSampleTracker$Journal;", Cond.methodLink RX8 203 yX3_hasRoomFor, Cond.instanceMethod yX3_hasRoomFor, Cond.selects RX3 yX3_hasRoomFor yX3_hasRoomFor, Cond.initialized RX3, Cond.code yX3_hasRoomFor cX3_hasRoomFor 2 (some .boolean), Cond.fieldLink RX3 15 "SampleTracker$Journal" "end" "I", Cond.methodLink RX3 61 yX2_length]
def wsX8_refusalOfNewSample_r3 : List Cond := [Cond.instanceMethod yX2_length, Cond.selects RX2 yX2_length yX2_length, Cond.initialized RX2, Cond.code yX2_length cX2_length 1 (some .int), Cond.methodLink RX2 25 yX2_hasSample, Cond.instanceMethod yX2_hasSample, Cond.selects RX2 yX2_hasSample yX2_hasSample, Cond.code yX2_hasSample cX2_hasSample 1 (some .boolean), Cond.fieldLink RX2 9 "SampleTracker$Entry" "kind" "I", Cond.methodLink RX2 29 yX2_hasWell, Cond.instanceMethod yX2_hasWell, Cond.selects RX2 yX2_hasWell yX2_hasWell, Cond.code yX2_hasWell cX2_hasWell 1 (some .boolean), Cond.methodLink RX2 32 yX2_hasVolume, Cond.instanceMethod yX2_hasVolume, Cond.selects RX2 yX2_hasVolume yX2_hasVolume, Cond.code yX2_hasVolume cX2_hasVolume 1 (some .boolean), Cond.methodLink RX3 66 yX3_bankBytes, Cond.instanceMethod yX3_bankBytes, Cond.selects RX3 yX3_bankBytes yX3_bankBytes, Cond.code yX3_bankBytes cX3_bankBytes 1 (some .int), Cond.fieldLink RX3 27 "SampleTracker$Journal" "first" "LSampleTracker$Bank;", Cond.methodLink RX3 49 yX0_size, Cond.instanceMethod yX0_size]
def wsX8_refusalOfNewSample_r4 : List Cond := [Cond.selects RX0 yX0_size yX0_size, Cond.initialized RX0, Cond.code yX0_size cX0_size 1 (some .int), Cond.fieldLink RX0 15 "SampleTracker$Bank" "bytes" "[B"]
def wsX8_refusalOfNewSample : List Cond := .code yX8_refusalOfNewSample cX8_refusalOfNewSample 5 (some .int) :: ((wsX8_refusalOfNewSample_r1 ++ (wsX8_refusalOfNewSample_r2 ++ (wsX8_refusalOfNewSample_r3 ++ wsX8_refusalOfNewSample_r4))) ++ wsX80 ++ wsX20 ++ wsX60 ++ wsX70 ++ wsX30 ++ wsX00)
def wsX8_carryOut_r1 : List Cond := [Cond.fieldLink RX8 30 "SampleTracker" "journal" "LSampleTracker$Journal;", Cond.fieldLink RX8 44 "SampleTracker" "entry" "LSampleTracker$Entry;", Cond.fieldLink RX8 37 "SampleTracker" "table" "LSampleTracker$Table;", Cond.methodLink RX8 206 yX3_append, Cond.instanceMethod yX3_append, Cond.selects RX3 yX3_append yX3_append, Cond.initialized RX3, Cond.code yX3_append cX3_append 2 (some .boolean), Cond.fieldLink RX3 39 "SampleTracker$Journal" "pen" "LSampleTracker$Pen;", Cond.fieldLink RX3 9 "SampleTracker$Journal" "inUse" "I", Cond.fieldLink RX3 15 "SampleTracker$Journal" "end" "I", Cond.fieldLink RX3 18 "SampleTracker$Journal" "power" "LSampleTracker$Power;", Cond.methodLink RX3 53 yX3_bank, Cond.instanceMethod yX3_bank, Cond.selects RX3 yX3_bank yX3_bank, Cond.code yX3_bank cX3_bank 2 (some (.object "SampleTracker$Bank")), Cond.fieldLink RX3 27 "SampleTracker$Journal" "first" "LSampleTracker$Bank;", Cond.fieldLink RX3 31 "SampleTracker$Journal" "second" "LSampleTracker$Bank;", Cond.methodLink RX3 69 yX5_goTo, Cond.instanceMethod yX5_goTo, Cond.selects RX5 yX5_goTo yX5_goTo, Cond.initialized RX5, Cond.code yX5_goTo cX5_goTo 3 none, Cond.fieldLink RX5 24 "SampleTracker$Pen" "bank" "LSampleTracker$Bank;"]
def wsX8_carryOut_r2 : List Cond := [Cond.fieldLink RX5 9 "SampleTracker$Pen" "position" "I", Cond.methodLink RX3 73 yX5_writeRecord, Cond.instanceMethod yX5_writeRecord, Cond.selects RX5 yX5_writeRecord yX5_writeRecord, Cond.code yX5_writeRecord cX5_writeRecord 2 none, Cond.fieldLink RX5 17 "SampleTracker$Pen" "crc" "I", Cond.methodLink RX5 40 yX2_length, Cond.instanceMethod yX2_length, Cond.selects RX2 yX2_length yX2_length, Cond.initialized RX2, Cond.code yX2_length cX2_length 1 (some .int), Cond.methodLink RX2 25 yX2_hasSample, Cond.instanceMethod yX2_hasSample, Cond.selects RX2 yX2_hasSample yX2_hasSample, Cond.code yX2_hasSample cX2_hasSample 1 (some .boolean), Cond.fieldLink RX2 9 "SampleTracker$Entry" "kind" "I", Cond.methodLink RX2 29 yX2_hasWell, Cond.instanceMethod yX2_hasWell, Cond.selects RX2 yX2_hasWell yX2_hasWell, Cond.code yX2_hasWell cX2_hasWell 1 (some .boolean), Cond.methodLink RX2 32 yX2_hasVolume, Cond.instanceMethod yX2_hasVolume, Cond.selects RX2 yX2_hasVolume yX2_hasVolume, Cond.code yX2_hasVolume cX2_hasVolume 1 (some .boolean)]
def wsX8_carryOut_r3 : List Cond := [Cond.methodLink RX5 32 yX5_writeNumber, Cond.instanceMethod yX5_writeNumber, Cond.selects RX5 yX5_writeNumber yX5_writeNumber, Cond.code yX5_writeNumber cX5_writeNumber 6 none, Cond.methodLink RX5 69 yX1_step, Cond.static yX1_step, Cond.initialized RX1, Cond.code yX1_step cX1_step 3 (some .int), Cond.fieldLink RX1 7 "SampleTracker$Crc" "OF_HALF_BYTE" "[I", Cond.methodLink RX5 28 yX5_writeByte, Cond.instanceMethod yX5_writeByte, Cond.selects RX5 yX5_writeByte yX5_writeByte, Cond.code yX5_writeByte cX5_writeByte 2 none, Cond.fieldLink RX5 20 "SampleTracker$Pen" "power" "LSampleTracker$Power;", Cond.methodLink RX5 73 yX6_letByteThrough, Cond.instanceMethod yX6_letByteThrough, Cond.selects RX6 yX6_letByteThrough yX6_letByteThrough, Cond.initialized RX6, Cond.code yX6_letByteThrough cX6_letByteThrough 2 (some .boolean), Cond.fieldLink RX6 7 "SampleTracker$Power" "up" "Z", Cond.fieldLink RX6 13 "SampleTracker$Power" "cutWaits" "Z", Cond.fieldLink RX6 16 "SampleTracker$Power" "bytesLeft" "I", Cond.fieldLink RX6 20 "SampleTracker$Power" "written" "I", Cond.fieldLink RX6 23 "SampleTracker$Power" "failed" "I"]
def wsX8_carryOut_r4 : List Cond := [Cond.methodLink RX5 78 yX0_put, Cond.instanceMethod yX0_put, Cond.selects RX0 yX0_put yX0_put, Cond.initialized RX0, Cond.code yX0_put cX0_put 3 none, Cond.fieldLink RX0 15 "SampleTracker$Bank" "bytes" "[B", Cond.methodLink RX5 49 yX2_hasSample, Cond.methodLink RX5 56 yX2_hasWell, Cond.methodLink RX5 62 yX2_hasVolume, Cond.methodLink RX5 36 yX1_end, Cond.static yX1_end, Cond.code yX1_end cX1_end 1 (some .int), Cond.methodLink RX3 77 yX6_isUp, Cond.instanceMethod yX6_isUp, Cond.selects RX6 yX6_isUp yX6_isUp, Cond.code yX6_isUp cX6_isUp 1 (some .boolean), Cond.methodLink RX3 81 yX5_position, Cond.instanceMethod yX5_position, Cond.selects RX5 yX5_position yX5_position, Cond.code yX5_position cX5_position 1 (some .int), Cond.methodLink RX8 117 yX7_apply, Cond.instanceMethod yX7_apply, Cond.selects RX7 yX7_apply yX7_apply, Cond.initialized RX7]
def wsX8_carryOut_r5 : List Cond := [Cond.code yX7_apply cX7_apply 2 none, Cond.fieldLink RX7 37 "SampleTracker$Table" "lost" "J", Cond.methodLink RX7 87 yX7_applyRegister, Cond.instanceMethod yX7_applyRegister, Cond.selects RX7 yX7_applyRegister yX7_applyRegister, Cond.code yX7_applyRegister cX7_applyRegister 2 none, Cond.methodLink RX7 109 yX7_remember, Cond.instanceMethod yX7_remember, Cond.selects RX7 yX7_remember yX7_remember, Cond.code yX7_remember cX7_remember 2 none, Cond.fieldLink RX7 29 "SampleTracker$Table" "past" "LSampleTracker$Past;", Cond.fieldLink RX7 33 "SampleTracker$Table" "samples" "I", Cond.methodLink RX7 41 yX7_wellOf, Cond.instanceMethod yX7_wellOf, Cond.selects RX7 yX7_wellOf yX7_wellOf, Cond.code yX7_wellOf cX7_wellOf 2 (some .int), Cond.fieldLink RX7 15 "SampleTracker$Table" "wells" "[I", Cond.methodLink RX7 45 yX7_isSample, Cond.instanceMethod yX7_isSample, Cond.selects RX7 yX7_isSample yX7_isSample, Cond.code yX7_isSample cX7_isSample 2 (some .boolean), Cond.methodLink RX7 63 yX7_volumeOf, Cond.instanceMethod yX7_volumeOf, Cond.selects RX7 yX7_volumeOf yX7_volumeOf]
def wsX8_carryOut_r6 : List Cond := [Cond.code yX7_volumeOf cX7_volumeOf 2 (some .long), Cond.fieldLink RX7 18 "SampleTracker$Table" "volumes" "[J", Cond.constantLong RX7 49 (-1), Cond.methodLink RX7 142 yX4_add, Cond.instanceMethod yX4_add, Cond.selects RX4 yX4_add yX4_add, Cond.initialized RX4, Cond.code yX4_add cX4_add 8 none, Cond.fieldLink RX4 28 "SampleTracker$Past" "size" "I", Cond.fieldLink RX4 9 "SampleTracker$Past" "samples" "[I", Cond.fieldLink RX4 15 "SampleTracker$Past" "lost" "[J", Cond.fieldLink RX4 19 "SampleTracker$Past" "touched" "[I", Cond.fieldLink RX4 22 "SampleTracker$Past" "wells" "[I", Cond.fieldLink RX4 25 "SampleTracker$Past" "volumes" "[J", Cond.methodLink RX7 116 yX7_addSample, Cond.instanceMethod yX7_addSample, Cond.selects RX7 yX7_addSample yX7_addSample, Cond.code yX7_addSample cX7_addSample 5 none, Cond.fieldLink RX7 9 "SampleTracker$Table" "parents" "[I", Cond.methodLink RX7 146 yX7_isFull, Cond.instanceMethod yX7_isFull, Cond.selects RX7 yX7_isFull yX7_isFull, Cond.code yX7_isFull cX7_isFull 1 (some .boolean), Cond.methodLink RX7 91 yX7_applyAliquot]
def wsX8_carryOut_r7 : List Cond := [Cond.instanceMethod yX7_applyAliquot, Cond.selects RX7 yX7_applyAliquot yX7_applyAliquot, Cond.code yX7_applyAliquot cX7_applyAliquot 2 none, Cond.methodLink RX7 94 yX7_applyMove, Cond.instanceMethod yX7_applyMove, Cond.selects RX7 yX7_applyMove yX7_applyMove, Cond.code yX7_applyMove cX7_applyMove 2 none, Cond.methodLink RX7 97 yX7_applyDiscard, Cond.instanceMethod yX7_applyDiscard, Cond.selects RX7 yX7_applyDiscard yX7_applyDiscard, Cond.code yX7_applyDiscard cX7_applyDiscard 2 none, Cond.methodLink RX7 100 yX7_applyUndo, Cond.instanceMethod yX7_applyUndo, Cond.selects RX7 yX7_applyUndo yX7_applyUndo, Cond.code yX7_applyUndo cX7_applyUndo 2 none, Cond.methodLink RX7 123 yX4_stepBack, Cond.instanceMethod yX4_stepBack, Cond.selects RX4 yX4_stepBack yX4_stepBack, Cond.code yX4_stepBack cX4_stepBack 1 (some .boolean), Cond.methodLink RX7 127 yX4_samplesBefore, Cond.instanceMethod yX4_samplesBefore, Cond.selects RX4 yX4_samplesBefore yX4_samplesBefore, Cond.code yX4_samplesBefore cX4_samplesBefore 1 (some .int), Cond.methodLink RX7 130 yX4_lostBefore]
def wsX8_carryOut_r8 : List Cond := [Cond.instanceMethod yX4_lostBefore, Cond.selects RX4 yX4_lostBefore yX4_lostBefore, Cond.code yX4_lostBefore cX4_lostBefore 1 (some .long), Cond.methodLink RX7 133 yX4_touched, Cond.instanceMethod yX4_touched, Cond.selects RX4 yX4_touched yX4_touched, Cond.code yX4_touched cX4_touched 1 (some .int), Cond.methodLink RX7 136 yX4_wellBefore, Cond.instanceMethod yX4_wellBefore, Cond.selects RX4 yX4_wellBefore yX4_wellBefore, Cond.code yX4_wellBefore cX4_wellBefore 1 (some .int), Cond.methodLink RX7 139 yX4_volumeBefore, Cond.instanceMethod yX4_volumeBefore, Cond.selects RX4 yX4_volumeBefore yX4_volumeBefore, Cond.code yX4_volumeBefore cX4_volumeBefore 1 (some .long), Cond.methodLink RX7 103 yX7_applyKept, Cond.instanceMethod yX7_applyKept, Cond.selects RX7 yX7_applyKept yX7_applyKept, Cond.code yX7_applyKept cX7_applyKept 2 none]
def wsX8_carryOut : List Cond := .code yX8_carryOut cX8_carryOut 2 (some .int) :: ((wsX8_carryOut_r1 ++ (wsX8_carryOut_r2 ++ (wsX8_carryOut_r3 ++ (wsX8_carryOut_r4 ++ (wsX8_carryOut_r5 ++ (wsX8_carryOut_r6 ++ (wsX8_carryOut_r7 ++ wsX8_carryOut_r8))))))) ++ wsX80 ++ wsX30 ++ wsX50 ++ wsX20 ++ wsX60 ++ wsX00 ++ wsX70 ++ wsX40)
def wsX8_register_r1 : List Cond := [Cond.fieldLink RX8 44 "SampleTracker" "entry" "LSampleTracker$Entry;", Cond.fieldLink RX8 37 "SampleTracker" "table" "LSampleTracker$Table;", Cond.methodLink RX8 48 yX2_set, Cond.instanceMethod yX2_set, Cond.selects RX2 yX2_set yX2_set, Cond.initialized RX2, Cond.code yX2_set cX2_set 6 none, Cond.fieldLink RX2 9 "SampleTracker$Entry" "kind" "I", Cond.fieldLink RX2 15 "SampleTracker$Entry" "sample" "I", Cond.fieldLink RX2 18 "SampleTracker$Entry" "well" "I", Cond.fieldLink RX2 21 "SampleTracker$Entry" "volume" "J", Cond.methodLink RX8 52 yX7_volumeStillAllowed, Cond.instanceMethod yX7_volumeStillAllowed, Cond.selects RX7 yX7_volumeStillAllowed yX7_volumeStillAllowed, Cond.initialized RX7, Cond.code yX7_volumeStillAllowed cX7_volumeStillAllowed 1 (some .long), Cond.constantLong RX7 69 (9223372036854775807), Cond.fieldLink RX7 37 "SampleTracker$Table" "lost" "J", Cond.methodLink RX7 71 yX7_liveVolume, Cond.instanceMethod yX7_liveVolume, Cond.selects RX7 yX7_liveVolume yX7_liveVolume, Cond.code yX7_liveVolume cX7_liveVolume 4 (some .long), Cond.fieldLink RX7 33 "SampleTracker$Table" "samples" "I", Cond.methodLink RX7 63 yX7_volumeOf]
def wsX8_register_r2 : List Cond := [Cond.instanceMethod yX7_volumeOf, Cond.selects RX7 yX7_volumeOf yX7_volumeOf, Cond.code yX7_volumeOf cX7_volumeOf 2 (some .long), Cond.fieldLink RX7 18 "SampleTracker$Table" "volumes" "[J", Cond.constantLong RX7 49 (-1), Cond.methodLink RX7 45 yX7_isSample, Cond.instanceMethod yX7_isSample, Cond.selects RX7 yX7_isSample yX7_isSample, Cond.code yX7_isSample cX7_isSample 2 (some .boolean), Cond.methodLink RX8 56 yX8_refusalOfNewSample, Cond.instanceMethod yX8_refusalOfNewSample, Cond.selects RX8 yX8_refusalOfNewSample yX8_refusalOfNewSample, Cond.initialized RX8, Cond.code yX8_refusalOfNewSample cX8_refusalOfNewSample 5 (some .int), Cond.methodLink RX8 76 yX8_refusalOfWell, Cond.instanceMethod yX8_refusalOfWell, Cond.selects RX8 yX8_refusalOfWell yX8_refusalOfWell, Cond.code yX8_refusalOfWell cX8_refusalOfWell 2 (some .int), Cond.fieldLink RX8 12 "SampleTracker" "power" "LSampleTracker$Power;", Cond.methodLink RX8 83 yX6_isUp, Cond.instanceMethod yX6_isUp, Cond.selects RX6 yX6_isUp yX6_isUp, Cond.initialized RX6, Cond.code yX6_isUp cX6_isUp 1 (some .boolean)]
def wsX8_register_r3 : List Cond := [Cond.fieldLink RX6 7 "SampleTracker$Power" "up" "Z", Cond.methodLink RX8 200 yX8_isWell, Cond.static yX8_isWell, Cond.code yX8_isWell cX8_isWell 1 (some .boolean), Cond.methodLink RX8 153 yX7_sampleIn, Cond.instanceMethod yX7_sampleIn, Cond.selects RX7 yX7_sampleIn yX7_sampleIn, Cond.code yX7_sampleIn cX7_sampleIn 3 (some .int), Cond.methodLink RX7 41 yX7_wellOf, Cond.instanceMethod yX7_wellOf, Cond.selects RX7 yX7_wellOf yX7_wellOf, Cond.code yX7_wellOf cX7_wellOf 2 (some .int), Cond.fieldLink RX7 15 "SampleTracker$Table" "wells" "[I", Cond.methodLink RX8 193 yX7_isFull, Cond.instanceMethod yX7_isFull, Cond.selects RX7 yX7_isFull yX7_isFull, Cond.code yX7_isFull cX7_isFull 1 (some .boolean), Cond.methodLink RX8 80 yX8_refusalOfRoom, Cond.instanceMethod yX8_refusalOfRoom, Cond.selects RX8 yX8_refusalOfRoom yX8_refusalOfRoom, Cond.code yX8_refusalOfRoom cX8_refusalOfRoom 1 (some .int), Cond.fieldLink RX8 30 "SampleTracker" "journal" "LSampleTracker$Journal;", Cond.methodLink RX8 203 yX3_hasRoomFor, Cond.instanceMethod yX3_hasRoomFor]
def wsX8_register_r4 : List Cond := [Cond.selects RX3 yX3_hasRoomFor yX3_hasRoomFor, Cond.initialized RX3, Cond.code yX3_hasRoomFor cX3_hasRoomFor 2 (some .boolean), Cond.fieldLink RX3 15 "SampleTracker$Journal" "end" "I", Cond.methodLink RX3 61 yX2_length, Cond.instanceMethod yX2_length, Cond.selects RX2 yX2_length yX2_length, Cond.code yX2_length cX2_length 1 (some .int), Cond.methodLink RX2 25 yX2_hasSample, Cond.instanceMethod yX2_hasSample, Cond.selects RX2 yX2_hasSample yX2_hasSample, Cond.code yX2_hasSample cX2_hasSample 1 (some .boolean), Cond.methodLink RX2 29 yX2_hasWell, Cond.instanceMethod yX2_hasWell, Cond.selects RX2 yX2_hasWell yX2_hasWell, Cond.code yX2_hasWell cX2_hasWell 1 (some .boolean), Cond.methodLink RX2 32 yX2_hasVolume, Cond.instanceMethod yX2_hasVolume, Cond.selects RX2 yX2_hasVolume yX2_hasVolume, Cond.code yX2_hasVolume cX2_hasVolume 1 (some .boolean), Cond.methodLink RX3 66 yX3_bankBytes, Cond.instanceMethod yX3_bankBytes, Cond.selects RX3 yX3_bankBytes yX3_bankBytes, Cond.code yX3_bankBytes cX3_bankBytes 1 (some .int)]
def wsX8_register_r5 : List Cond := [Cond.fieldLink RX3 27 "SampleTracker$Journal" "first" "LSampleTracker$Bank;", Cond.methodLink RX3 49 yX0_size, Cond.instanceMethod yX0_size, Cond.selects RX0 yX0_size yX0_size, Cond.initialized RX0, Cond.code yX0_size cX0_size 1 (some .int), Cond.fieldLink RX0 15 "SampleTracker$Bank" "bytes" "[B", Cond.methodLink RX8 60 yX8_carryOut, Cond.instanceMethod yX8_carryOut, Cond.selects RX8 yX8_carryOut yX8_carryOut, Cond.code yX8_carryOut cX8_carryOut 2 (some .int), Cond.methodLink RX8 206 yX3_append, Cond.instanceMethod yX3_append, Cond.selects RX3 yX3_append yX3_append, Cond.code yX3_append cX3_append 2 (some .boolean), Cond.fieldLink RX3 39 "SampleTracker$Journal" "pen" "LSampleTracker$Pen;", Cond.fieldLink RX3 9 "SampleTracker$Journal" "inUse" "I", Cond.fieldLink RX3 18 "SampleTracker$Journal" "power" "LSampleTracker$Power;", Cond.methodLink RX3 53 yX3_bank, Cond.instanceMethod yX3_bank, Cond.selects RX3 yX3_bank yX3_bank, Cond.code yX3_bank cX3_bank 2 (some (.object "SampleTracker$Bank")), Cond.fieldLink RX3 31 "SampleTracker$Journal" "second" "LSampleTracker$Bank;", Cond.methodLink RX3 69 yX5_goTo]
def wsX8_register_r6 : List Cond := [Cond.instanceMethod yX5_goTo, Cond.selects RX5 yX5_goTo yX5_goTo, Cond.initialized RX5, Cond.code yX5_goTo cX5_goTo 3 none, Cond.fieldLink RX5 24 "SampleTracker$Pen" "bank" "LSampleTracker$Bank;", Cond.fieldLink RX5 9 "SampleTracker$Pen" "position" "I", Cond.methodLink RX3 73 yX5_writeRecord, Cond.instanceMethod yX5_writeRecord, Cond.selects RX5 yX5_writeRecord yX5_writeRecord, Cond.code yX5_writeRecord cX5_writeRecord 2 none, Cond.fieldLink RX5 17 "SampleTracker$Pen" "crc" "I", Cond.methodLink RX5 40 yX2_length, Cond.methodLink RX5 32 yX5_writeNumber, Cond.instanceMethod yX5_writeNumber, Cond.selects RX5 yX5_writeNumber yX5_writeNumber, Cond.code yX5_writeNumber cX5_writeNumber 6 none, Cond.methodLink RX5 69 yX1_step, Cond.static yX1_step, Cond.initialized RX1, Cond.code yX1_step cX1_step 3 (some .int), Cond.fieldLink RX1 7 "SampleTracker$Crc" "OF_HALF_BYTE" "[I", Cond.methodLink RX5 28 yX5_writeByte, Cond.instanceMethod yX5_writeByte, Cond.selects RX5 yX5_writeByte yX5_writeByte]
def wsX8_register_r7 : List Cond := [Cond.code yX5_writeByte cX5_writeByte 2 none, Cond.fieldLink RX5 20 "SampleTracker$Pen" "power" "LSampleTracker$Power;", Cond.methodLink RX5 73 yX6_letByteThrough, Cond.instanceMethod yX6_letByteThrough, Cond.selects RX6 yX6_letByteThrough yX6_letByteThrough, Cond.code yX6_letByteThrough cX6_letByteThrough 2 (some .boolean), Cond.fieldLink RX6 13 "SampleTracker$Power" "cutWaits" "Z", Cond.fieldLink RX6 16 "SampleTracker$Power" "bytesLeft" "I", Cond.fieldLink RX6 20 "SampleTracker$Power" "written" "I", Cond.fieldLink RX6 23 "SampleTracker$Power" "failed" "I", Cond.methodLink RX5 78 yX0_put, Cond.instanceMethod yX0_put, Cond.selects RX0 yX0_put yX0_put, Cond.code yX0_put cX0_put 3 none, Cond.methodLink RX5 49 yX2_hasSample, Cond.methodLink RX5 56 yX2_hasWell, Cond.methodLink RX5 62 yX2_hasVolume, Cond.methodLink RX5 36 yX1_end, Cond.static yX1_end, Cond.code yX1_end cX1_end 1 (some .int), Cond.methodLink RX3 77 yX6_isUp, Cond.methodLink RX3 81 yX5_position, Cond.instanceMethod yX5_position, Cond.selects RX5 yX5_position yX5_position]
def wsX8_register_r8 : List Cond := [Cond.code yX5_position cX5_position 1 (some .int), Cond.methodLink RX8 117 yX7_apply, Cond.instanceMethod yX7_apply, Cond.selects RX7 yX7_apply yX7_apply, Cond.code yX7_apply cX7_apply 2 none, Cond.methodLink RX7 87 yX7_applyRegister, Cond.instanceMethod yX7_applyRegister, Cond.selects RX7 yX7_applyRegister yX7_applyRegister, Cond.code yX7_applyRegister cX7_applyRegister 2 none, Cond.methodLink RX7 109 yX7_remember, Cond.instanceMethod yX7_remember, Cond.selects RX7 yX7_remember yX7_remember, Cond.code yX7_remember cX7_remember 2 none, Cond.fieldLink RX7 29 "SampleTracker$Table" "past" "LSampleTracker$Past;", Cond.methodLink RX7 142 yX4_add, Cond.instanceMethod yX4_add, Cond.selects RX4 yX4_add yX4_add, Cond.initialized RX4, Cond.code yX4_add cX4_add 8 none, Cond.fieldLink RX4 28 "SampleTracker$Past" "size" "I", Cond.fieldLink RX4 9 "SampleTracker$Past" "samples" "[I", Cond.fieldLink RX4 15 "SampleTracker$Past" "lost" "[J", Cond.fieldLink RX4 19 "SampleTracker$Past" "touched" "[I", Cond.fieldLink RX4 22 "SampleTracker$Past" "wells" "[I"]
def wsX8_register_r9 : List Cond := [Cond.fieldLink RX4 25 "SampleTracker$Past" "volumes" "[J", Cond.methodLink RX7 116 yX7_addSample, Cond.instanceMethod yX7_addSample, Cond.selects RX7 yX7_addSample yX7_addSample, Cond.code yX7_addSample cX7_addSample 5 none, Cond.fieldLink RX7 9 "SampleTracker$Table" "parents" "[I", Cond.methodLink RX7 146 yX7_isFull, Cond.methodLink RX7 91 yX7_applyAliquot, Cond.instanceMethod yX7_applyAliquot, Cond.selects RX7 yX7_applyAliquot yX7_applyAliquot, Cond.code yX7_applyAliquot cX7_applyAliquot 2 none, Cond.methodLink RX7 94 yX7_applyMove, Cond.instanceMethod yX7_applyMove, Cond.selects RX7 yX7_applyMove yX7_applyMove, Cond.code yX7_applyMove cX7_applyMove 2 none, Cond.methodLink RX7 97 yX7_applyDiscard, Cond.instanceMethod yX7_applyDiscard, Cond.selects RX7 yX7_applyDiscard yX7_applyDiscard, Cond.code yX7_applyDiscard cX7_applyDiscard 2 none, Cond.methodLink RX7 100 yX7_applyUndo, Cond.instanceMethod yX7_applyUndo, Cond.selects RX7 yX7_applyUndo yX7_applyUndo, Cond.code yX7_applyUndo cX7_applyUndo 2 none, Cond.methodLink RX7 123 yX4_stepBack]
def wsX8_register_r10 : List Cond := [Cond.instanceMethod yX4_stepBack, Cond.selects RX4 yX4_stepBack yX4_stepBack, Cond.code yX4_stepBack cX4_stepBack 1 (some .boolean), Cond.methodLink RX7 127 yX4_samplesBefore, Cond.instanceMethod yX4_samplesBefore, Cond.selects RX4 yX4_samplesBefore yX4_samplesBefore, Cond.code yX4_samplesBefore cX4_samplesBefore 1 (some .int), Cond.methodLink RX7 130 yX4_lostBefore, Cond.instanceMethod yX4_lostBefore, Cond.selects RX4 yX4_lostBefore yX4_lostBefore, Cond.code yX4_lostBefore cX4_lostBefore 1 (some .long), Cond.methodLink RX7 133 yX4_touched, Cond.instanceMethod yX4_touched, Cond.selects RX4 yX4_touched yX4_touched, Cond.code yX4_touched cX4_touched 1 (some .int), Cond.methodLink RX7 136 yX4_wellBefore, Cond.instanceMethod yX4_wellBefore, Cond.selects RX4 yX4_wellBefore yX4_wellBefore, Cond.code yX4_wellBefore cX4_wellBefore 1 (some .int), Cond.methodLink RX7 139 yX4_volumeBefore, Cond.instanceMethod yX4_volumeBefore, Cond.selects RX4 yX4_volumeBefore yX4_volumeBefore, Cond.code yX4_volumeBefore cX4_volumeBefore 1 (some .long), Cond.methodLink RX7 103 yX7_applyKept]
def wsX8_register_r11 : List Cond := [Cond.instanceMethod yX7_applyKept, Cond.selects RX7 yX7_applyKept yX7_applyKept, Cond.code yX7_applyKept cX7_applyKept 2 none, Cond.methodLink RX8 64 yX7_sampleCount, Cond.instanceMethod yX7_sampleCount, Cond.selects RX7 yX7_sampleCount yX7_sampleCount, Cond.code yX7_sampleCount cX7_sampleCount 1 (some .int)]
def wsX8_register : List Cond := .code yX8_register cX8_register 5 (some .int) :: ((wsX8_register_r1 ++ (wsX8_register_r2 ++ (wsX8_register_r3 ++ (wsX8_register_r4 ++ (wsX8_register_r5 ++ (wsX8_register_r6 ++ (wsX8_register_r7 ++ (wsX8_register_r8 ++ (wsX8_register_r9 ++ (wsX8_register_r10 ++ wsX8_register_r11)))))))))) ++ wsX80 ++ wsX20 ++ wsX70 ++ wsX60 ++ wsX30 ++ wsX00 ++ wsX50 ++ wsX40)
def wsX8_aliquot_r1 : List Cond := [Cond.fieldLink RX8 44 "SampleTracker" "entry" "LSampleTracker$Entry;", Cond.fieldLink RX8 37 "SampleTracker" "table" "LSampleTracker$Table;", Cond.methodLink RX8 48 yX2_set, Cond.instanceMethod yX2_set, Cond.selects RX2 yX2_set yX2_set, Cond.initialized RX2, Cond.code yX2_set cX2_set 6 none, Cond.fieldLink RX2 9 "SampleTracker$Entry" "kind" "I", Cond.fieldLink RX2 15 "SampleTracker$Entry" "sample" "I", Cond.fieldLink RX2 18 "SampleTracker$Entry" "well" "I", Cond.fieldLink RX2 21 "SampleTracker$Entry" "volume" "J", Cond.methodLink RX8 68 yX7_isLive, Cond.instanceMethod yX7_isLive, Cond.selects RX7 yX7_isLive yX7_isLive, Cond.initialized RX7, Cond.code yX7_isLive cX7_isLive 2 (some .boolean), Cond.methodLink RX7 41 yX7_wellOf, Cond.instanceMethod yX7_wellOf, Cond.selects RX7 yX7_wellOf yX7_wellOf, Cond.code yX7_wellOf cX7_wellOf 2 (some .int), Cond.fieldLink RX7 15 "SampleTracker$Table" "wells" "[I", Cond.methodLink RX7 45 yX7_isSample, Cond.instanceMethod yX7_isSample, Cond.selects RX7 yX7_isSample yX7_isSample]
def wsX8_aliquot_r2 : List Cond := [Cond.code yX7_isSample cX7_isSample 2 (some .boolean), Cond.fieldLink RX7 33 "SampleTracker$Table" "samples" "I", Cond.methodLink RX8 72 yX7_volumeOf, Cond.instanceMethod yX7_volumeOf, Cond.selects RX7 yX7_volumeOf yX7_volumeOf, Cond.code yX7_volumeOf cX7_volumeOf 2 (some .long), Cond.fieldLink RX7 18 "SampleTracker$Table" "volumes" "[J", Cond.constantLong RX7 49 (-1), Cond.methodLink RX8 56 yX8_refusalOfNewSample, Cond.instanceMethod yX8_refusalOfNewSample, Cond.selects RX8 yX8_refusalOfNewSample yX8_refusalOfNewSample, Cond.initialized RX8, Cond.code yX8_refusalOfNewSample cX8_refusalOfNewSample 5 (some .int), Cond.methodLink RX8 76 yX8_refusalOfWell, Cond.instanceMethod yX8_refusalOfWell, Cond.selects RX8 yX8_refusalOfWell yX8_refusalOfWell, Cond.code yX8_refusalOfWell cX8_refusalOfWell 2 (some .int), Cond.fieldLink RX8 12 "SampleTracker" "power" "LSampleTracker$Power;", Cond.methodLink RX8 83 yX6_isUp, Cond.instanceMethod yX6_isUp, Cond.selects RX6 yX6_isUp yX6_isUp, Cond.initialized RX6, Cond.code yX6_isUp cX6_isUp 1 (some .boolean), Cond.fieldLink RX6 7 "SampleTracker$Power" "up" "Z"]
def wsX8_aliquot_r3 : List Cond := [Cond.methodLink RX8 200 yX8_isWell, Cond.static yX8_isWell, Cond.code yX8_isWell cX8_isWell 1 (some .boolean), Cond.methodLink RX8 153 yX7_sampleIn, Cond.instanceMethod yX7_sampleIn, Cond.selects RX7 yX7_sampleIn yX7_sampleIn, Cond.code yX7_sampleIn cX7_sampleIn 3 (some .int), Cond.methodLink RX8 193 yX7_isFull, Cond.instanceMethod yX7_isFull, Cond.selects RX7 yX7_isFull yX7_isFull, Cond.code yX7_isFull cX7_isFull 1 (some .boolean), Cond.methodLink RX8 80 yX8_refusalOfRoom, Cond.instanceMethod yX8_refusalOfRoom, Cond.selects RX8 yX8_refusalOfRoom yX8_refusalOfRoom, Cond.code yX8_refusalOfRoom cX8_refusalOfRoom 1 (some .int), Cond.fieldLink RX8 30 "SampleTracker" "journal" "LSampleTracker$Journal;", Cond.methodLink RX8 203 yX3_hasRoomFor, Cond.instanceMethod yX3_hasRoomFor, Cond.selects RX3 yX3_hasRoomFor yX3_hasRoomFor, Cond.initialized RX3, Cond.code yX3_hasRoomFor cX3_hasRoomFor 2 (some .boolean), Cond.fieldLink RX3 15 "SampleTracker$Journal" "end" "I", Cond.methodLink RX3 61 yX2_length, Cond.instanceMethod yX2_length]
def wsX8_aliquot_r4 : List Cond := [Cond.selects RX2 yX2_length yX2_length, Cond.code yX2_length cX2_length 1 (some .int), Cond.methodLink RX2 25 yX2_hasSample, Cond.instanceMethod yX2_hasSample, Cond.selects RX2 yX2_hasSample yX2_hasSample, Cond.code yX2_hasSample cX2_hasSample 1 (some .boolean), Cond.methodLink RX2 29 yX2_hasWell, Cond.instanceMethod yX2_hasWell, Cond.selects RX2 yX2_hasWell yX2_hasWell, Cond.code yX2_hasWell cX2_hasWell 1 (some .boolean), Cond.methodLink RX2 32 yX2_hasVolume, Cond.instanceMethod yX2_hasVolume, Cond.selects RX2 yX2_hasVolume yX2_hasVolume, Cond.code yX2_hasVolume cX2_hasVolume 1 (some .boolean), Cond.methodLink RX3 66 yX3_bankBytes, Cond.instanceMethod yX3_bankBytes, Cond.selects RX3 yX3_bankBytes yX3_bankBytes, Cond.code yX3_bankBytes cX3_bankBytes 1 (some .int), Cond.fieldLink RX3 27 "SampleTracker$Journal" "first" "LSampleTracker$Bank;", Cond.methodLink RX3 49 yX0_size, Cond.instanceMethod yX0_size, Cond.selects RX0 yX0_size yX0_size, Cond.initialized RX0, Cond.code yX0_size cX0_size 1 (some .int)]
def wsX8_aliquot_r5 : List Cond := [Cond.fieldLink RX0 15 "SampleTracker$Bank" "bytes" "[B", Cond.methodLink RX8 60 yX8_carryOut, Cond.instanceMethod yX8_carryOut, Cond.selects RX8 yX8_carryOut yX8_carryOut, Cond.code yX8_carryOut cX8_carryOut 2 (some .int), Cond.methodLink RX8 206 yX3_append, Cond.instanceMethod yX3_append, Cond.selects RX3 yX3_append yX3_append, Cond.code yX3_append cX3_append 2 (some .boolean), Cond.fieldLink RX3 39 "SampleTracker$Journal" "pen" "LSampleTracker$Pen;", Cond.fieldLink RX3 9 "SampleTracker$Journal" "inUse" "I", Cond.fieldLink RX3 18 "SampleTracker$Journal" "power" "LSampleTracker$Power;", Cond.methodLink RX3 53 yX3_bank, Cond.instanceMethod yX3_bank, Cond.selects RX3 yX3_bank yX3_bank, Cond.code yX3_bank cX3_bank 2 (some (.object "SampleTracker$Bank")), Cond.fieldLink RX3 31 "SampleTracker$Journal" "second" "LSampleTracker$Bank;", Cond.methodLink RX3 69 yX5_goTo, Cond.instanceMethod yX5_goTo, Cond.selects RX5 yX5_goTo yX5_goTo, Cond.initialized RX5, Cond.code yX5_goTo cX5_goTo 3 none, Cond.fieldLink RX5 24 "SampleTracker$Pen" "bank" "LSampleTracker$Bank;", Cond.fieldLink RX5 9 "SampleTracker$Pen" "position" "I"]
def wsX8_aliquot_r6 : List Cond := [Cond.methodLink RX3 73 yX5_writeRecord, Cond.instanceMethod yX5_writeRecord, Cond.selects RX5 yX5_writeRecord yX5_writeRecord, Cond.code yX5_writeRecord cX5_writeRecord 2 none, Cond.fieldLink RX5 17 "SampleTracker$Pen" "crc" "I", Cond.methodLink RX5 40 yX2_length, Cond.methodLink RX5 32 yX5_writeNumber, Cond.instanceMethod yX5_writeNumber, Cond.selects RX5 yX5_writeNumber yX5_writeNumber, Cond.code yX5_writeNumber cX5_writeNumber 6 none, Cond.methodLink RX5 69 yX1_step, Cond.static yX1_step, Cond.initialized RX1, Cond.code yX1_step cX1_step 3 (some .int), Cond.fieldLink RX1 7 "SampleTracker$Crc" "OF_HALF_BYTE" "[I", Cond.methodLink RX5 28 yX5_writeByte, Cond.instanceMethod yX5_writeByte, Cond.selects RX5 yX5_writeByte yX5_writeByte, Cond.code yX5_writeByte cX5_writeByte 2 none, Cond.fieldLink RX5 20 "SampleTracker$Pen" "power" "LSampleTracker$Power;", Cond.methodLink RX5 73 yX6_letByteThrough, Cond.instanceMethod yX6_letByteThrough, Cond.selects RX6 yX6_letByteThrough yX6_letByteThrough, Cond.code yX6_letByteThrough cX6_letByteThrough 2 (some .boolean)]
def wsX8_aliquot_r7 : List Cond := [Cond.fieldLink RX6 13 "SampleTracker$Power" "cutWaits" "Z", Cond.fieldLink RX6 16 "SampleTracker$Power" "bytesLeft" "I", Cond.fieldLink RX6 20 "SampleTracker$Power" "written" "I", Cond.fieldLink RX6 23 "SampleTracker$Power" "failed" "I", Cond.methodLink RX5 78 yX0_put, Cond.instanceMethod yX0_put, Cond.selects RX0 yX0_put yX0_put, Cond.code yX0_put cX0_put 3 none, Cond.methodLink RX5 49 yX2_hasSample, Cond.methodLink RX5 56 yX2_hasWell, Cond.methodLink RX5 62 yX2_hasVolume, Cond.methodLink RX5 36 yX1_end, Cond.static yX1_end, Cond.code yX1_end cX1_end 1 (some .int), Cond.methodLink RX3 77 yX6_isUp, Cond.methodLink RX3 81 yX5_position, Cond.instanceMethod yX5_position, Cond.selects RX5 yX5_position yX5_position, Cond.code yX5_position cX5_position 1 (some .int), Cond.methodLink RX8 117 yX7_apply, Cond.instanceMethod yX7_apply, Cond.selects RX7 yX7_apply yX7_apply, Cond.code yX7_apply cX7_apply 2 none, Cond.fieldLink RX7 37 "SampleTracker$Table" "lost" "J"]
def wsX8_aliquot_r8 : List Cond := [Cond.methodLink RX7 87 yX7_applyRegister, Cond.instanceMethod yX7_applyRegister, Cond.selects RX7 yX7_applyRegister yX7_applyRegister, Cond.code yX7_applyRegister cX7_applyRegister 2 none, Cond.methodLink RX7 109 yX7_remember, Cond.instanceMethod yX7_remember, Cond.selects RX7 yX7_remember yX7_remember, Cond.code yX7_remember cX7_remember 2 none, Cond.fieldLink RX7 29 "SampleTracker$Table" "past" "LSampleTracker$Past;", Cond.methodLink RX7 63 yX7_volumeOf, Cond.methodLink RX7 142 yX4_add, Cond.instanceMethod yX4_add, Cond.selects RX4 yX4_add yX4_add, Cond.initialized RX4, Cond.code yX4_add cX4_add 8 none, Cond.fieldLink RX4 28 "SampleTracker$Past" "size" "I", Cond.fieldLink RX4 9 "SampleTracker$Past" "samples" "[I", Cond.fieldLink RX4 15 "SampleTracker$Past" "lost" "[J", Cond.fieldLink RX4 19 "SampleTracker$Past" "touched" "[I", Cond.fieldLink RX4 22 "SampleTracker$Past" "wells" "[I", Cond.fieldLink RX4 25 "SampleTracker$Past" "volumes" "[J", Cond.methodLink RX7 116 yX7_addSample, Cond.instanceMethod yX7_addSample, Cond.selects RX7 yX7_addSample yX7_addSample]
def wsX8_aliquot_r9 : List Cond := [Cond.code yX7_addSample cX7_addSample 5 none, Cond.fieldLink RX7 9 "SampleTracker$Table" "parents" "[I", Cond.methodLink RX7 146 yX7_isFull, Cond.methodLink RX7 91 yX7_applyAliquot, Cond.instanceMethod yX7_applyAliquot, Cond.selects RX7 yX7_applyAliquot yX7_applyAliquot, Cond.code yX7_applyAliquot cX7_applyAliquot 2 none, Cond.methodLink RX7 94 yX7_applyMove, Cond.instanceMethod yX7_applyMove, Cond.selects RX7 yX7_applyMove yX7_applyMove, Cond.code yX7_applyMove cX7_applyMove 2 none, Cond.methodLink RX7 97 yX7_applyDiscard, Cond.instanceMethod yX7_applyDiscard, Cond.selects RX7 yX7_applyDiscard yX7_applyDiscard, Cond.code yX7_applyDiscard cX7_applyDiscard 2 none, Cond.methodLink RX7 100 yX7_applyUndo, Cond.instanceMethod yX7_applyUndo, Cond.selects RX7 yX7_applyUndo yX7_applyUndo, Cond.code yX7_applyUndo cX7_applyUndo 2 none, Cond.methodLink RX7 123 yX4_stepBack, Cond.instanceMethod yX4_stepBack, Cond.selects RX4 yX4_stepBack yX4_stepBack, Cond.code yX4_stepBack cX4_stepBack 1 (some .boolean), Cond.methodLink RX7 127 yX4_samplesBefore]
def wsX8_aliquot_r10 : List Cond := [Cond.instanceMethod yX4_samplesBefore, Cond.selects RX4 yX4_samplesBefore yX4_samplesBefore, Cond.code yX4_samplesBefore cX4_samplesBefore 1 (some .int), Cond.methodLink RX7 130 yX4_lostBefore, Cond.instanceMethod yX4_lostBefore, Cond.selects RX4 yX4_lostBefore yX4_lostBefore, Cond.code yX4_lostBefore cX4_lostBefore 1 (some .long), Cond.methodLink RX7 133 yX4_touched, Cond.instanceMethod yX4_touched, Cond.selects RX4 yX4_touched yX4_touched, Cond.code yX4_touched cX4_touched 1 (some .int), Cond.methodLink RX7 136 yX4_wellBefore, Cond.instanceMethod yX4_wellBefore, Cond.selects RX4 yX4_wellBefore yX4_wellBefore, Cond.code yX4_wellBefore cX4_wellBefore 1 (some .int), Cond.methodLink RX7 139 yX4_volumeBefore, Cond.instanceMethod yX4_volumeBefore, Cond.selects RX4 yX4_volumeBefore yX4_volumeBefore, Cond.code yX4_volumeBefore cX4_volumeBefore 1 (some .long), Cond.methodLink RX7 103 yX7_applyKept, Cond.instanceMethod yX7_applyKept, Cond.selects RX7 yX7_applyKept yX7_applyKept, Cond.code yX7_applyKept cX7_applyKept 2 none, Cond.methodLink RX8 64 yX7_sampleCount]
def wsX8_aliquot_r11 : List Cond := [Cond.instanceMethod yX7_sampleCount, Cond.selects RX7 yX7_sampleCount yX7_sampleCount, Cond.code yX7_sampleCount cX7_sampleCount 1 (some .int)]
def wsX8_aliquot : List Cond := .code yX8_aliquot cX8_aliquot 6 (some .int) :: ((wsX8_aliquot_r1 ++ (wsX8_aliquot_r2 ++ (wsX8_aliquot_r3 ++ (wsX8_aliquot_r4 ++ (wsX8_aliquot_r5 ++ (wsX8_aliquot_r6 ++ (wsX8_aliquot_r7 ++ (wsX8_aliquot_r8 ++ (wsX8_aliquot_r9 ++ (wsX8_aliquot_r10 ++ wsX8_aliquot_r11)))))))))) ++ wsX80 ++ wsX20 ++ wsX70 ++ wsX60 ++ wsX30 ++ wsX00 ++ wsX50 ++ wsX40)
def wsX8_move_r1 : List Cond := [Cond.fieldLink RX8 44 "SampleTracker" "entry" "LSampleTracker$Entry;", Cond.fieldLink RX8 37 "SampleTracker" "table" "LSampleTracker$Table;", Cond.methodLink RX8 48 yX2_set, Cond.instanceMethod yX2_set, Cond.selects RX2 yX2_set yX2_set, Cond.initialized RX2, Cond.code yX2_set cX2_set 6 none, Cond.fieldLink RX2 9 "SampleTracker$Entry" "kind" "I", Cond.fieldLink RX2 15 "SampleTracker$Entry" "sample" "I", Cond.fieldLink RX2 18 "SampleTracker$Entry" "well" "I", Cond.fieldLink RX2 21 "SampleTracker$Entry" "volume" "J", Cond.methodLink RX8 68 yX7_isLive, Cond.instanceMethod yX7_isLive, Cond.selects RX7 yX7_isLive yX7_isLive, Cond.initialized RX7, Cond.code yX7_isLive cX7_isLive 2 (some .boolean), Cond.methodLink RX7 41 yX7_wellOf, Cond.instanceMethod yX7_wellOf, Cond.selects RX7 yX7_wellOf yX7_wellOf, Cond.code yX7_wellOf cX7_wellOf 2 (some .int), Cond.fieldLink RX7 15 "SampleTracker$Table" "wells" "[I", Cond.methodLink RX7 45 yX7_isSample, Cond.instanceMethod yX7_isSample, Cond.selects RX7 yX7_isSample yX7_isSample]
def wsX8_move_r2 : List Cond := [Cond.code yX7_isSample cX7_isSample 2 (some .boolean), Cond.fieldLink RX7 33 "SampleTracker$Table" "samples" "I", Cond.methodLink RX8 76 yX8_refusalOfWell, Cond.instanceMethod yX8_refusalOfWell, Cond.selects RX8 yX8_refusalOfWell yX8_refusalOfWell, Cond.initialized RX8, Cond.code yX8_refusalOfWell cX8_refusalOfWell 2 (some .int), Cond.fieldLink RX8 12 "SampleTracker" "power" "LSampleTracker$Power;", Cond.methodLink RX8 83 yX6_isUp, Cond.instanceMethod yX6_isUp, Cond.selects RX6 yX6_isUp yX6_isUp, Cond.initialized RX6, Cond.code yX6_isUp cX6_isUp 1 (some .boolean), Cond.fieldLink RX6 7 "SampleTracker$Power" "up" "Z", Cond.methodLink RX8 200 yX8_isWell, Cond.static yX8_isWell, Cond.code yX8_isWell cX8_isWell 1 (some .boolean), Cond.methodLink RX8 153 yX7_sampleIn, Cond.instanceMethod yX7_sampleIn, Cond.selects RX7 yX7_sampleIn yX7_sampleIn, Cond.code yX7_sampleIn cX7_sampleIn 3 (some .int), Cond.methodLink RX8 80 yX8_refusalOfRoom, Cond.instanceMethod yX8_refusalOfRoom, Cond.selects RX8 yX8_refusalOfRoom yX8_refusalOfRoom]
def wsX8_move_r3 : List Cond := [Cond.code yX8_refusalOfRoom cX8_refusalOfRoom 1 (some .int), Cond.fieldLink RX8 30 "SampleTracker" "journal" "LSampleTracker$Journal;", Cond.methodLink RX8 203 yX3_hasRoomFor, Cond.instanceMethod yX3_hasRoomFor, Cond.selects RX3 yX3_hasRoomFor yX3_hasRoomFor, Cond.initialized RX3, Cond.code yX3_hasRoomFor cX3_hasRoomFor 2 (some .boolean), Cond.fieldLink RX3 15 "SampleTracker$Journal" "end" "I", Cond.methodLink RX3 61 yX2_length, Cond.instanceMethod yX2_length, Cond.selects RX2 yX2_length yX2_length, Cond.code yX2_length cX2_length 1 (some .int), Cond.methodLink RX2 25 yX2_hasSample, Cond.instanceMethod yX2_hasSample, Cond.selects RX2 yX2_hasSample yX2_hasSample, Cond.code yX2_hasSample cX2_hasSample 1 (some .boolean), Cond.methodLink RX2 29 yX2_hasWell, Cond.instanceMethod yX2_hasWell, Cond.selects RX2 yX2_hasWell yX2_hasWell, Cond.code yX2_hasWell cX2_hasWell 1 (some .boolean), Cond.methodLink RX2 32 yX2_hasVolume, Cond.instanceMethod yX2_hasVolume, Cond.selects RX2 yX2_hasVolume yX2_hasVolume, Cond.code yX2_hasVolume cX2_hasVolume 1 (some .boolean)]
def wsX8_move_r4 : List Cond := [Cond.methodLink RX3 66 yX3_bankBytes, Cond.instanceMethod yX3_bankBytes, Cond.selects RX3 yX3_bankBytes yX3_bankBytes, Cond.code yX3_bankBytes cX3_bankBytes 1 (some .int), Cond.fieldLink RX3 27 "SampleTracker$Journal" "first" "LSampleTracker$Bank;", Cond.methodLink RX3 49 yX0_size, Cond.instanceMethod yX0_size, Cond.selects RX0 yX0_size yX0_size, Cond.initialized RX0, Cond.code yX0_size cX0_size 1 (some .int), Cond.fieldLink RX0 15 "SampleTracker$Bank" "bytes" "[B", Cond.methodLink RX8 60 yX8_carryOut, Cond.instanceMethod yX8_carryOut, Cond.selects RX8 yX8_carryOut yX8_carryOut, Cond.code yX8_carryOut cX8_carryOut 2 (some .int), Cond.methodLink RX8 206 yX3_append, Cond.instanceMethod yX3_append, Cond.selects RX3 yX3_append yX3_append, Cond.code yX3_append cX3_append 2 (some .boolean), Cond.fieldLink RX3 39 "SampleTracker$Journal" "pen" "LSampleTracker$Pen;", Cond.fieldLink RX3 9 "SampleTracker$Journal" "inUse" "I", Cond.fieldLink RX3 18 "SampleTracker$Journal" "power" "LSampleTracker$Power;", Cond.methodLink RX3 53 yX3_bank, Cond.instanceMethod yX3_bank]
def wsX8_move_r5 : List Cond := [Cond.selects RX3 yX3_bank yX3_bank, Cond.code yX3_bank cX3_bank 2 (some (.object "SampleTracker$Bank")), Cond.fieldLink RX3 31 "SampleTracker$Journal" "second" "LSampleTracker$Bank;", Cond.methodLink RX3 69 yX5_goTo, Cond.instanceMethod yX5_goTo, Cond.selects RX5 yX5_goTo yX5_goTo, Cond.initialized RX5, Cond.code yX5_goTo cX5_goTo 3 none, Cond.fieldLink RX5 24 "SampleTracker$Pen" "bank" "LSampleTracker$Bank;", Cond.fieldLink RX5 9 "SampleTracker$Pen" "position" "I", Cond.methodLink RX3 73 yX5_writeRecord, Cond.instanceMethod yX5_writeRecord, Cond.selects RX5 yX5_writeRecord yX5_writeRecord, Cond.code yX5_writeRecord cX5_writeRecord 2 none, Cond.fieldLink RX5 17 "SampleTracker$Pen" "crc" "I", Cond.methodLink RX5 40 yX2_length, Cond.methodLink RX5 32 yX5_writeNumber, Cond.instanceMethod yX5_writeNumber, Cond.selects RX5 yX5_writeNumber yX5_writeNumber, Cond.code yX5_writeNumber cX5_writeNumber 6 none, Cond.methodLink RX5 69 yX1_step, Cond.static yX1_step, Cond.initialized RX1, Cond.code yX1_step cX1_step 3 (some .int)]
def wsX8_move_r6 : List Cond := [Cond.fieldLink RX1 7 "SampleTracker$Crc" "OF_HALF_BYTE" "[I", Cond.methodLink RX5 28 yX5_writeByte, Cond.instanceMethod yX5_writeByte, Cond.selects RX5 yX5_writeByte yX5_writeByte, Cond.code yX5_writeByte cX5_writeByte 2 none, Cond.fieldLink RX5 20 "SampleTracker$Pen" "power" "LSampleTracker$Power;", Cond.methodLink RX5 73 yX6_letByteThrough, Cond.instanceMethod yX6_letByteThrough, Cond.selects RX6 yX6_letByteThrough yX6_letByteThrough, Cond.code yX6_letByteThrough cX6_letByteThrough 2 (some .boolean), Cond.fieldLink RX6 13 "SampleTracker$Power" "cutWaits" "Z", Cond.fieldLink RX6 16 "SampleTracker$Power" "bytesLeft" "I", Cond.fieldLink RX6 20 "SampleTracker$Power" "written" "I", Cond.fieldLink RX6 23 "SampleTracker$Power" "failed" "I", Cond.methodLink RX5 78 yX0_put, Cond.instanceMethod yX0_put, Cond.selects RX0 yX0_put yX0_put, Cond.code yX0_put cX0_put 3 none, Cond.methodLink RX5 49 yX2_hasSample, Cond.methodLink RX5 56 yX2_hasWell, Cond.methodLink RX5 62 yX2_hasVolume, Cond.methodLink RX5 36 yX1_end, Cond.static yX1_end, Cond.code yX1_end cX1_end 1 (some .int)]
def wsX8_move_r7 : List Cond := [Cond.methodLink RX3 77 yX6_isUp, Cond.methodLink RX3 81 yX5_position, Cond.instanceMethod yX5_position, Cond.selects RX5 yX5_position yX5_position, Cond.code yX5_position cX5_position 1 (some .int), Cond.methodLink RX8 117 yX7_apply, Cond.instanceMethod yX7_apply, Cond.selects RX7 yX7_apply yX7_apply, Cond.code yX7_apply cX7_apply 2 none, Cond.fieldLink RX7 37 "SampleTracker$Table" "lost" "J", Cond.methodLink RX7 87 yX7_applyRegister, Cond.instanceMethod yX7_applyRegister, Cond.selects RX7 yX7_applyRegister yX7_applyRegister, Cond.code yX7_applyRegister cX7_applyRegister 2 none, Cond.methodLink RX7 109 yX7_remember, Cond.instanceMethod yX7_remember, Cond.selects RX7 yX7_remember yX7_remember, Cond.code yX7_remember cX7_remember 2 none, Cond.fieldLink RX7 29 "SampleTracker$Table" "past" "LSampleTracker$Past;", Cond.methodLink RX7 63 yX7_volumeOf, Cond.instanceMethod yX7_volumeOf, Cond.selects RX7 yX7_volumeOf yX7_volumeOf, Cond.code yX7_volumeOf cX7_volumeOf 2 (some .long), Cond.fieldLink RX7 18 "SampleTracker$Table" "volumes" "[J"]
def wsX8_move_r8 : List Cond := [Cond.constantLong RX7 49 (-1), Cond.methodLink RX7 142 yX4_add, Cond.instanceMethod yX4_add, Cond.selects RX4 yX4_add yX4_add, Cond.initialized RX4, Cond.code yX4_add cX4_add 8 none, Cond.fieldLink RX4 28 "SampleTracker$Past" "size" "I", Cond.fieldLink RX4 9 "SampleTracker$Past" "samples" "[I", Cond.fieldLink RX4 15 "SampleTracker$Past" "lost" "[J", Cond.fieldLink RX4 19 "SampleTracker$Past" "touched" "[I", Cond.fieldLink RX4 22 "SampleTracker$Past" "wells" "[I", Cond.fieldLink RX4 25 "SampleTracker$Past" "volumes" "[J", Cond.methodLink RX7 116 yX7_addSample, Cond.instanceMethod yX7_addSample, Cond.selects RX7 yX7_addSample yX7_addSample, Cond.code yX7_addSample cX7_addSample 5 none, Cond.fieldLink RX7 9 "SampleTracker$Table" "parents" "[I", Cond.methodLink RX7 146 yX7_isFull, Cond.instanceMethod yX7_isFull, Cond.selects RX7 yX7_isFull yX7_isFull, Cond.code yX7_isFull cX7_isFull 1 (some .boolean), Cond.methodLink RX7 91 yX7_applyAliquot, Cond.instanceMethod yX7_applyAliquot, Cond.selects RX7 yX7_applyAliquot yX7_applyAliquot]
def wsX8_move_r9 : List Cond := [Cond.code yX7_applyAliquot cX7_applyAliquot 2 none, Cond.methodLink RX7 94 yX7_applyMove, Cond.instanceMethod yX7_applyMove, Cond.selects RX7 yX7_applyMove yX7_applyMove, Cond.code yX7_applyMove cX7_applyMove 2 none, Cond.methodLink RX7 97 yX7_applyDiscard, Cond.instanceMethod yX7_applyDiscard, Cond.selects RX7 yX7_applyDiscard yX7_applyDiscard, Cond.code yX7_applyDiscard cX7_applyDiscard 2 none, Cond.methodLink RX7 100 yX7_applyUndo, Cond.instanceMethod yX7_applyUndo, Cond.selects RX7 yX7_applyUndo yX7_applyUndo, Cond.code yX7_applyUndo cX7_applyUndo 2 none, Cond.methodLink RX7 123 yX4_stepBack, Cond.instanceMethod yX4_stepBack, Cond.selects RX4 yX4_stepBack yX4_stepBack, Cond.code yX4_stepBack cX4_stepBack 1 (some .boolean), Cond.methodLink RX7 127 yX4_samplesBefore, Cond.instanceMethod yX4_samplesBefore, Cond.selects RX4 yX4_samplesBefore yX4_samplesBefore, Cond.code yX4_samplesBefore cX4_samplesBefore 1 (some .int), Cond.methodLink RX7 130 yX4_lostBefore, Cond.instanceMethod yX4_lostBefore, Cond.selects RX4 yX4_lostBefore yX4_lostBefore]
def wsX8_move_r10 : List Cond := [Cond.code yX4_lostBefore cX4_lostBefore 1 (some .long), Cond.methodLink RX7 133 yX4_touched, Cond.instanceMethod yX4_touched, Cond.selects RX4 yX4_touched yX4_touched, Cond.code yX4_touched cX4_touched 1 (some .int), Cond.methodLink RX7 136 yX4_wellBefore, Cond.instanceMethod yX4_wellBefore, Cond.selects RX4 yX4_wellBefore yX4_wellBefore, Cond.code yX4_wellBefore cX4_wellBefore 1 (some .int), Cond.methodLink RX7 139 yX4_volumeBefore, Cond.instanceMethod yX4_volumeBefore, Cond.selects RX4 yX4_volumeBefore yX4_volumeBefore, Cond.code yX4_volumeBefore cX4_volumeBefore 1 (some .long), Cond.methodLink RX7 103 yX7_applyKept, Cond.instanceMethod yX7_applyKept, Cond.selects RX7 yX7_applyKept yX7_applyKept, Cond.code yX7_applyKept cX7_applyKept 2 none]
def wsX8_move : List Cond := .code yX8_move cX8_move 4 (some .int) :: ((wsX8_move_r1 ++ (wsX8_move_r2 ++ (wsX8_move_r3 ++ (wsX8_move_r4 ++ (wsX8_move_r5 ++ (wsX8_move_r6 ++ (wsX8_move_r7 ++ (wsX8_move_r8 ++ (wsX8_move_r9 ++ wsX8_move_r10))))))))) ++ wsX80 ++ wsX20 ++ wsX70 ++ wsX60 ++ wsX30 ++ wsX00 ++ wsX50 ++ wsX40)
def wsX8_discard_r1 : List Cond := [Cond.fieldLink RX8 44 "SampleTracker" "entry" "LSampleTracker$Entry;", Cond.fieldLink RX8 12 "SampleTracker" "power" "LSampleTracker$Power;", Cond.fieldLink RX8 37 "SampleTracker" "table" "LSampleTracker$Table;", Cond.methodLink RX8 48 yX2_set, Cond.instanceMethod yX2_set, Cond.selects RX2 yX2_set yX2_set, Cond.initialized RX2, Cond.code yX2_set cX2_set 6 none, Cond.fieldLink RX2 9 "SampleTracker$Entry" "kind" "I", Cond.fieldLink RX2 15 "SampleTracker$Entry" "sample" "I", Cond.fieldLink RX2 18 "SampleTracker$Entry" "well" "I", Cond.fieldLink RX2 21 "SampleTracker$Entry" "volume" "J", Cond.methodLink RX8 83 yX6_isUp, Cond.instanceMethod yX6_isUp, Cond.selects RX6 yX6_isUp yX6_isUp, Cond.initialized RX6, Cond.code yX6_isUp cX6_isUp 1 (some .boolean), Cond.fieldLink RX6 7 "SampleTracker$Power" "up" "Z", Cond.methodLink RX8 68 yX7_isLive, Cond.instanceMethod yX7_isLive, Cond.selects RX7 yX7_isLive yX7_isLive, Cond.initialized RX7, Cond.code yX7_isLive cX7_isLive 2 (some .boolean), Cond.methodLink RX7 41 yX7_wellOf]
def wsX8_discard_r2 : List Cond := [Cond.instanceMethod yX7_wellOf, Cond.selects RX7 yX7_wellOf yX7_wellOf, Cond.code yX7_wellOf cX7_wellOf 2 (some .int), Cond.fieldLink RX7 15 "SampleTracker$Table" "wells" "[I", Cond.methodLink RX7 45 yX7_isSample, Cond.instanceMethod yX7_isSample, Cond.selects RX7 yX7_isSample yX7_isSample, Cond.code yX7_isSample cX7_isSample 2 (some .boolean), Cond.fieldLink RX7 33 "SampleTracker$Table" "samples" "I", Cond.methodLink RX8 80 yX8_refusalOfRoom, Cond.instanceMethod yX8_refusalOfRoom, Cond.selects RX8 yX8_refusalOfRoom yX8_refusalOfRoom, Cond.initialized RX8, Cond.code yX8_refusalOfRoom cX8_refusalOfRoom 1 (some .int), Cond.fieldLink RX8 30 "SampleTracker" "journal" "LSampleTracker$Journal;", Cond.methodLink RX8 203 yX3_hasRoomFor, Cond.instanceMethod yX3_hasRoomFor, Cond.selects RX3 yX3_hasRoomFor yX3_hasRoomFor, Cond.initialized RX3, Cond.code yX3_hasRoomFor cX3_hasRoomFor 2 (some .boolean), Cond.fieldLink RX3 15 "SampleTracker$Journal" "end" "I", Cond.methodLink RX3 61 yX2_length, Cond.instanceMethod yX2_length, Cond.selects RX2 yX2_length yX2_length]
def wsX8_discard_r3 : List Cond := [Cond.code yX2_length cX2_length 1 (some .int), Cond.methodLink RX2 25 yX2_hasSample, Cond.instanceMethod yX2_hasSample, Cond.selects RX2 yX2_hasSample yX2_hasSample, Cond.code yX2_hasSample cX2_hasSample 1 (some .boolean), Cond.methodLink RX2 29 yX2_hasWell, Cond.instanceMethod yX2_hasWell, Cond.selects RX2 yX2_hasWell yX2_hasWell, Cond.code yX2_hasWell cX2_hasWell 1 (some .boolean), Cond.methodLink RX2 32 yX2_hasVolume, Cond.instanceMethod yX2_hasVolume, Cond.selects RX2 yX2_hasVolume yX2_hasVolume, Cond.code yX2_hasVolume cX2_hasVolume 1 (some .boolean), Cond.methodLink RX3 66 yX3_bankBytes, Cond.instanceMethod yX3_bankBytes, Cond.selects RX3 yX3_bankBytes yX3_bankBytes, Cond.code yX3_bankBytes cX3_bankBytes 1 (some .int), Cond.fieldLink RX3 27 "SampleTracker$Journal" "first" "LSampleTracker$Bank;", Cond.methodLink RX3 49 yX0_size, Cond.instanceMethod yX0_size, Cond.selects RX0 yX0_size yX0_size, Cond.initialized RX0, Cond.code yX0_size cX0_size 1 (some .int), Cond.fieldLink RX0 15 "SampleTracker$Bank" "bytes" "[B"]
def wsX8_discard_r4 : List Cond := [Cond.methodLink RX8 60 yX8_carryOut, Cond.instanceMethod yX8_carryOut, Cond.selects RX8 yX8_carryOut yX8_carryOut, Cond.code yX8_carryOut cX8_carryOut 2 (some .int), Cond.methodLink RX8 206 yX3_append, Cond.instanceMethod yX3_append, Cond.selects RX3 yX3_append yX3_append, Cond.code yX3_append cX3_append 2 (some .boolean), Cond.fieldLink RX3 39 "SampleTracker$Journal" "pen" "LSampleTracker$Pen;", Cond.fieldLink RX3 9 "SampleTracker$Journal" "inUse" "I", Cond.fieldLink RX3 18 "SampleTracker$Journal" "power" "LSampleTracker$Power;", Cond.methodLink RX3 53 yX3_bank, Cond.instanceMethod yX3_bank, Cond.selects RX3 yX3_bank yX3_bank, Cond.code yX3_bank cX3_bank 2 (some (.object "SampleTracker$Bank")), Cond.fieldLink RX3 31 "SampleTracker$Journal" "second" "LSampleTracker$Bank;", Cond.methodLink RX3 69 yX5_goTo, Cond.instanceMethod yX5_goTo, Cond.selects RX5 yX5_goTo yX5_goTo, Cond.initialized RX5, Cond.code yX5_goTo cX5_goTo 3 none, Cond.fieldLink RX5 24 "SampleTracker$Pen" "bank" "LSampleTracker$Bank;", Cond.fieldLink RX5 9 "SampleTracker$Pen" "position" "I", Cond.methodLink RX3 73 yX5_writeRecord]
def wsX8_discard_r5 : List Cond := [Cond.instanceMethod yX5_writeRecord, Cond.selects RX5 yX5_writeRecord yX5_writeRecord, Cond.code yX5_writeRecord cX5_writeRecord 2 none, Cond.fieldLink RX5 17 "SampleTracker$Pen" "crc" "I", Cond.methodLink RX5 40 yX2_length, Cond.methodLink RX5 32 yX5_writeNumber, Cond.instanceMethod yX5_writeNumber, Cond.selects RX5 yX5_writeNumber yX5_writeNumber, Cond.code yX5_writeNumber cX5_writeNumber 6 none, Cond.methodLink RX5 69 yX1_step, Cond.static yX1_step, Cond.initialized RX1, Cond.code yX1_step cX1_step 3 (some .int), Cond.fieldLink RX1 7 "SampleTracker$Crc" "OF_HALF_BYTE" "[I", Cond.methodLink RX5 28 yX5_writeByte, Cond.instanceMethod yX5_writeByte, Cond.selects RX5 yX5_writeByte yX5_writeByte, Cond.code yX5_writeByte cX5_writeByte 2 none, Cond.fieldLink RX5 20 "SampleTracker$Pen" "power" "LSampleTracker$Power;", Cond.methodLink RX5 73 yX6_letByteThrough, Cond.instanceMethod yX6_letByteThrough, Cond.selects RX6 yX6_letByteThrough yX6_letByteThrough, Cond.code yX6_letByteThrough cX6_letByteThrough 2 (some .boolean), Cond.fieldLink RX6 13 "SampleTracker$Power" "cutWaits" "Z"]
def wsX8_discard_r6 : List Cond := [Cond.fieldLink RX6 16 "SampleTracker$Power" "bytesLeft" "I", Cond.fieldLink RX6 20 "SampleTracker$Power" "written" "I", Cond.fieldLink RX6 23 "SampleTracker$Power" "failed" "I", Cond.methodLink RX5 78 yX0_put, Cond.instanceMethod yX0_put, Cond.selects RX0 yX0_put yX0_put, Cond.code yX0_put cX0_put 3 none, Cond.methodLink RX5 49 yX2_hasSample, Cond.methodLink RX5 56 yX2_hasWell, Cond.methodLink RX5 62 yX2_hasVolume, Cond.methodLink RX5 36 yX1_end, Cond.static yX1_end, Cond.code yX1_end cX1_end 1 (some .int), Cond.methodLink RX3 77 yX6_isUp, Cond.methodLink RX3 81 yX5_position, Cond.instanceMethod yX5_position, Cond.selects RX5 yX5_position yX5_position, Cond.code yX5_position cX5_position 1 (some .int), Cond.methodLink RX8 117 yX7_apply, Cond.instanceMethod yX7_apply, Cond.selects RX7 yX7_apply yX7_apply, Cond.code yX7_apply cX7_apply 2 none, Cond.fieldLink RX7 37 "SampleTracker$Table" "lost" "J", Cond.methodLink RX7 87 yX7_applyRegister]
def wsX8_discard_r7 : List Cond := [Cond.instanceMethod yX7_applyRegister, Cond.selects RX7 yX7_applyRegister yX7_applyRegister, Cond.code yX7_applyRegister cX7_applyRegister 2 none, Cond.methodLink RX7 109 yX7_remember, Cond.instanceMethod yX7_remember, Cond.selects RX7 yX7_remember yX7_remember, Cond.code yX7_remember cX7_remember 2 none, Cond.fieldLink RX7 29 "SampleTracker$Table" "past" "LSampleTracker$Past;", Cond.methodLink RX7 63 yX7_volumeOf, Cond.instanceMethod yX7_volumeOf, Cond.selects RX7 yX7_volumeOf yX7_volumeOf, Cond.code yX7_volumeOf cX7_volumeOf 2 (some .long), Cond.fieldLink RX7 18 "SampleTracker$Table" "volumes" "[J", Cond.constantLong RX7 49 (-1), Cond.methodLink RX7 142 yX4_add, Cond.instanceMethod yX4_add, Cond.selects RX4 yX4_add yX4_add, Cond.initialized RX4, Cond.code yX4_add cX4_add 8 none, Cond.fieldLink RX4 28 "SampleTracker$Past" "size" "I", Cond.fieldLink RX4 9 "SampleTracker$Past" "samples" "[I", Cond.fieldLink RX4 15 "SampleTracker$Past" "lost" "[J", Cond.fieldLink RX4 19 "SampleTracker$Past" "touched" "[I", Cond.fieldLink RX4 22 "SampleTracker$Past" "wells" "[I"]
def wsX8_discard_r8 : List Cond := [Cond.fieldLink RX4 25 "SampleTracker$Past" "volumes" "[J", Cond.methodLink RX7 116 yX7_addSample, Cond.instanceMethod yX7_addSample, Cond.selects RX7 yX7_addSample yX7_addSample, Cond.code yX7_addSample cX7_addSample 5 none, Cond.fieldLink RX7 9 "SampleTracker$Table" "parents" "[I", Cond.methodLink RX7 146 yX7_isFull, Cond.instanceMethod yX7_isFull, Cond.selects RX7 yX7_isFull yX7_isFull, Cond.code yX7_isFull cX7_isFull 1 (some .boolean), Cond.methodLink RX7 91 yX7_applyAliquot, Cond.instanceMethod yX7_applyAliquot, Cond.selects RX7 yX7_applyAliquot yX7_applyAliquot, Cond.code yX7_applyAliquot cX7_applyAliquot 2 none, Cond.methodLink RX7 94 yX7_applyMove, Cond.instanceMethod yX7_applyMove, Cond.selects RX7 yX7_applyMove yX7_applyMove, Cond.code yX7_applyMove cX7_applyMove 2 none, Cond.methodLink RX7 97 yX7_applyDiscard, Cond.instanceMethod yX7_applyDiscard, Cond.selects RX7 yX7_applyDiscard yX7_applyDiscard, Cond.code yX7_applyDiscard cX7_applyDiscard 2 none, Cond.methodLink RX7 100 yX7_applyUndo, Cond.instanceMethod yX7_applyUndo]
def wsX8_discard_r9 : List Cond := [Cond.selects RX7 yX7_applyUndo yX7_applyUndo, Cond.code yX7_applyUndo cX7_applyUndo 2 none, Cond.methodLink RX7 123 yX4_stepBack, Cond.instanceMethod yX4_stepBack, Cond.selects RX4 yX4_stepBack yX4_stepBack, Cond.code yX4_stepBack cX4_stepBack 1 (some .boolean), Cond.methodLink RX7 127 yX4_samplesBefore, Cond.instanceMethod yX4_samplesBefore, Cond.selects RX4 yX4_samplesBefore yX4_samplesBefore, Cond.code yX4_samplesBefore cX4_samplesBefore 1 (some .int), Cond.methodLink RX7 130 yX4_lostBefore, Cond.instanceMethod yX4_lostBefore, Cond.selects RX4 yX4_lostBefore yX4_lostBefore, Cond.code yX4_lostBefore cX4_lostBefore 1 (some .long), Cond.methodLink RX7 133 yX4_touched, Cond.instanceMethod yX4_touched, Cond.selects RX4 yX4_touched yX4_touched, Cond.code yX4_touched cX4_touched 1 (some .int), Cond.methodLink RX7 136 yX4_wellBefore, Cond.instanceMethod yX4_wellBefore, Cond.selects RX4 yX4_wellBefore yX4_wellBefore, Cond.code yX4_wellBefore cX4_wellBefore 1 (some .int), Cond.methodLink RX7 139 yX4_volumeBefore, Cond.instanceMethod yX4_volumeBefore]
def wsX8_discard_r10 : List Cond := [Cond.selects RX4 yX4_volumeBefore yX4_volumeBefore, Cond.code yX4_volumeBefore cX4_volumeBefore 1 (some .long), Cond.methodLink RX7 103 yX7_applyKept, Cond.instanceMethod yX7_applyKept, Cond.selects RX7 yX7_applyKept yX7_applyKept, Cond.code yX7_applyKept cX7_applyKept 2 none]
def wsX8_discard : List Cond := .code yX8_discard cX8_discard 2 (some .int) :: ((wsX8_discard_r1 ++ (wsX8_discard_r2 ++ (wsX8_discard_r3 ++ (wsX8_discard_r4 ++ (wsX8_discard_r5 ++ (wsX8_discard_r6 ++ (wsX8_discard_r7 ++ (wsX8_discard_r8 ++ (wsX8_discard_r9 ++ wsX8_discard_r10))))))))) ++ wsX80 ++ wsX20 ++ wsX60 ++ wsX70 ++ wsX30 ++ wsX00 ++ wsX50 ++ wsX40)
def wsX8_undo_r1 : List Cond := [Cond.fieldLink RX8 44 "SampleTracker" "entry" "LSampleTracker$Entry;", Cond.fieldLink RX8 12 "SampleTracker" "power" "LSampleTracker$Power;", Cond.fieldLink RX8 37 "SampleTracker" "table" "LSampleTracker$Table;", Cond.methodLink RX8 48 yX2_set, Cond.instanceMethod yX2_set, Cond.selects RX2 yX2_set yX2_set, Cond.initialized RX2, Cond.code yX2_set cX2_set 6 none, Cond.fieldLink RX2 9 "SampleTracker$Entry" "kind" "I", Cond.fieldLink RX2 15 "SampleTracker$Entry" "sample" "I", Cond.fieldLink RX2 18 "SampleTracker$Entry" "well" "I", Cond.fieldLink RX2 21 "SampleTracker$Entry" "volume" "J", Cond.methodLink RX8 83 yX6_isUp, Cond.instanceMethod yX6_isUp, Cond.selects RX6 yX6_isUp yX6_isUp, Cond.initialized RX6, Cond.code yX6_isUp cX6_isUp 1 (some .boolean), Cond.fieldLink RX6 7 "SampleTracker$Power" "up" "Z", Cond.methodLink RX8 80 yX8_refusalOfRoom, Cond.instanceMethod yX8_refusalOfRoom, Cond.selects RX8 yX8_refusalOfRoom yX8_refusalOfRoom, Cond.initialized RX8, Cond.code yX8_refusalOfRoom cX8_refusalOfRoom 1 (some .int), Cond.fieldLink RX8 30 "SampleTracker" "journal" "LSampleTracker$Journal;"]
def wsX8_undo_r2 : List Cond := [Cond.methodLink RX8 203 yX3_hasRoomFor, Cond.instanceMethod yX3_hasRoomFor, Cond.selects RX3 yX3_hasRoomFor yX3_hasRoomFor, Cond.initialized RX3, Cond.code yX3_hasRoomFor cX3_hasRoomFor 2 (some .boolean), Cond.fieldLink RX3 15 "SampleTracker$Journal" "end" "I", Cond.methodLink RX3 61 yX2_length, Cond.instanceMethod yX2_length, Cond.selects RX2 yX2_length yX2_length, Cond.code yX2_length cX2_length 1 (some .int), Cond.methodLink RX2 25 yX2_hasSample, Cond.instanceMethod yX2_hasSample, Cond.selects RX2 yX2_hasSample yX2_hasSample, Cond.code yX2_hasSample cX2_hasSample 1 (some .boolean), Cond.methodLink RX2 29 yX2_hasWell, Cond.instanceMethod yX2_hasWell, Cond.selects RX2 yX2_hasWell yX2_hasWell, Cond.code yX2_hasWell cX2_hasWell 1 (some .boolean), Cond.methodLink RX2 32 yX2_hasVolume, Cond.instanceMethod yX2_hasVolume, Cond.selects RX2 yX2_hasVolume yX2_hasVolume, Cond.code yX2_hasVolume cX2_hasVolume 1 (some .boolean), Cond.methodLink RX3 66 yX3_bankBytes, Cond.instanceMethod yX3_bankBytes]
def wsX8_undo_r3 : List Cond := [Cond.selects RX3 yX3_bankBytes yX3_bankBytes, Cond.code yX3_bankBytes cX3_bankBytes 1 (some .int), Cond.fieldLink RX3 27 "SampleTracker$Journal" "first" "LSampleTracker$Bank;", Cond.methodLink RX3 49 yX0_size, Cond.instanceMethod yX0_size, Cond.selects RX0 yX0_size yX0_size, Cond.initialized RX0, Cond.code yX0_size cX0_size 1 (some .int), Cond.fieldLink RX0 15 "SampleTracker$Bank" "bytes" "[B", Cond.methodLink RX8 87 yX7_pastActs, Cond.instanceMethod yX7_pastActs, Cond.selects RX7 yX7_pastActs yX7_pastActs, Cond.initialized RX7, Cond.code yX7_pastActs cX7_pastActs 1 (some .int), Cond.fieldLink RX7 29 "SampleTracker$Table" "past" "LSampleTracker$Past;", Cond.methodLink RX7 75 yX4_size, Cond.instanceMethod yX4_size, Cond.selects RX4 yX4_size yX4_size, Cond.initialized RX4, Cond.code yX4_size cX4_size 1 (some .int), Cond.fieldLink RX4 28 "SampleTracker$Past" "size" "I", Cond.methodLink RX8 60 yX8_carryOut, Cond.instanceMethod yX8_carryOut, Cond.selects RX8 yX8_carryOut yX8_carryOut]
def wsX8_undo_r4 : List Cond := [Cond.code yX8_carryOut cX8_carryOut 2 (some .int), Cond.methodLink RX8 206 yX3_append, Cond.instanceMethod yX3_append, Cond.selects RX3 yX3_append yX3_append, Cond.code yX3_append cX3_append 2 (some .boolean), Cond.fieldLink RX3 39 "SampleTracker$Journal" "pen" "LSampleTracker$Pen;", Cond.fieldLink RX3 9 "SampleTracker$Journal" "inUse" "I", Cond.fieldLink RX3 18 "SampleTracker$Journal" "power" "LSampleTracker$Power;", Cond.methodLink RX3 53 yX3_bank, Cond.instanceMethod yX3_bank, Cond.selects RX3 yX3_bank yX3_bank, Cond.code yX3_bank cX3_bank 2 (some (.object "SampleTracker$Bank")), Cond.fieldLink RX3 31 "SampleTracker$Journal" "second" "LSampleTracker$Bank;", Cond.methodLink RX3 69 yX5_goTo, Cond.instanceMethod yX5_goTo, Cond.selects RX5 yX5_goTo yX5_goTo, Cond.initialized RX5, Cond.code yX5_goTo cX5_goTo 3 none, Cond.fieldLink RX5 24 "SampleTracker$Pen" "bank" "LSampleTracker$Bank;", Cond.fieldLink RX5 9 "SampleTracker$Pen" "position" "I", Cond.methodLink RX3 73 yX5_writeRecord, Cond.instanceMethod yX5_writeRecord, Cond.selects RX5 yX5_writeRecord yX5_writeRecord, Cond.code yX5_writeRecord cX5_writeRecord 2 none]
def wsX8_undo_r5 : List Cond := [Cond.fieldLink RX5 17 "SampleTracker$Pen" "crc" "I", Cond.methodLink RX5 40 yX2_length, Cond.methodLink RX5 32 yX5_writeNumber, Cond.instanceMethod yX5_writeNumber, Cond.selects RX5 yX5_writeNumber yX5_writeNumber, Cond.code yX5_writeNumber cX5_writeNumber 6 none, Cond.methodLink RX5 69 yX1_step, Cond.static yX1_step, Cond.initialized RX1, Cond.code yX1_step cX1_step 3 (some .int), Cond.fieldLink RX1 7 "SampleTracker$Crc" "OF_HALF_BYTE" "[I", Cond.methodLink RX5 28 yX5_writeByte, Cond.instanceMethod yX5_writeByte, Cond.selects RX5 yX5_writeByte yX5_writeByte, Cond.code yX5_writeByte cX5_writeByte 2 none, Cond.fieldLink RX5 20 "SampleTracker$Pen" "power" "LSampleTracker$Power;", Cond.methodLink RX5 73 yX6_letByteThrough, Cond.instanceMethod yX6_letByteThrough, Cond.selects RX6 yX6_letByteThrough yX6_letByteThrough, Cond.code yX6_letByteThrough cX6_letByteThrough 2 (some .boolean), Cond.fieldLink RX6 13 "SampleTracker$Power" "cutWaits" "Z", Cond.fieldLink RX6 16 "SampleTracker$Power" "bytesLeft" "I", Cond.fieldLink RX6 20 "SampleTracker$Power" "written" "I", Cond.fieldLink RX6 23 "SampleTracker$Power" "failed" "I"]
def wsX8_undo_r6 : List Cond := [Cond.methodLink RX5 78 yX0_put, Cond.instanceMethod yX0_put, Cond.selects RX0 yX0_put yX0_put, Cond.code yX0_put cX0_put 3 none, Cond.methodLink RX5 49 yX2_hasSample, Cond.methodLink RX5 56 yX2_hasWell, Cond.methodLink RX5 62 yX2_hasVolume, Cond.methodLink RX5 36 yX1_end, Cond.static yX1_end, Cond.code yX1_end cX1_end 1 (some .int), Cond.methodLink RX3 77 yX6_isUp, Cond.methodLink RX3 81 yX5_position, Cond.instanceMethod yX5_position, Cond.selects RX5 yX5_position yX5_position, Cond.code yX5_position cX5_position 1 (some .int), Cond.methodLink RX8 117 yX7_apply, Cond.instanceMethod yX7_apply, Cond.selects RX7 yX7_apply yX7_apply, Cond.code yX7_apply cX7_apply 2 none, Cond.fieldLink RX7 37 "SampleTracker$Table" "lost" "J", Cond.methodLink RX7 87 yX7_applyRegister, Cond.instanceMethod yX7_applyRegister, Cond.selects RX7 yX7_applyRegister yX7_applyRegister, Cond.code yX7_applyRegister cX7_applyRegister 2 none]
def wsX8_undo_r7 : List Cond := [Cond.methodLink RX7 109 yX7_remember, Cond.instanceMethod yX7_remember, Cond.selects RX7 yX7_remember yX7_remember, Cond.code yX7_remember cX7_remember 2 none, Cond.fieldLink RX7 33 "SampleTracker$Table" "samples" "I", Cond.methodLink RX7 41 yX7_wellOf, Cond.instanceMethod yX7_wellOf, Cond.selects RX7 yX7_wellOf yX7_wellOf, Cond.code yX7_wellOf cX7_wellOf 2 (some .int), Cond.fieldLink RX7 15 "SampleTracker$Table" "wells" "[I", Cond.methodLink RX7 45 yX7_isSample, Cond.instanceMethod yX7_isSample, Cond.selects RX7 yX7_isSample yX7_isSample, Cond.code yX7_isSample cX7_isSample 2 (some .boolean), Cond.methodLink RX7 63 yX7_volumeOf, Cond.instanceMethod yX7_volumeOf, Cond.selects RX7 yX7_volumeOf yX7_volumeOf, Cond.code yX7_volumeOf cX7_volumeOf 2 (some .long), Cond.fieldLink RX7 18 "SampleTracker$Table" "volumes" "[J", Cond.constantLong RX7 49 (-1), Cond.methodLink RX7 142 yX4_add, Cond.instanceMethod yX4_add, Cond.selects RX4 yX4_add yX4_add, Cond.code yX4_add cX4_add 8 none]
def wsX8_undo_r8 : List Cond := [Cond.fieldLink RX4 9 "SampleTracker$Past" "samples" "[I", Cond.fieldLink RX4 15 "SampleTracker$Past" "lost" "[J", Cond.fieldLink RX4 19 "SampleTracker$Past" "touched" "[I", Cond.fieldLink RX4 22 "SampleTracker$Past" "wells" "[I", Cond.fieldLink RX4 25 "SampleTracker$Past" "volumes" "[J", Cond.methodLink RX7 116 yX7_addSample, Cond.instanceMethod yX7_addSample, Cond.selects RX7 yX7_addSample yX7_addSample, Cond.code yX7_addSample cX7_addSample 5 none, Cond.fieldLink RX7 9 "SampleTracker$Table" "parents" "[I", Cond.methodLink RX7 146 yX7_isFull, Cond.instanceMethod yX7_isFull, Cond.selects RX7 yX7_isFull yX7_isFull, Cond.code yX7_isFull cX7_isFull 1 (some .boolean), Cond.methodLink RX7 91 yX7_applyAliquot, Cond.instanceMethod yX7_applyAliquot, Cond.selects RX7 yX7_applyAliquot yX7_applyAliquot, Cond.code yX7_applyAliquot cX7_applyAliquot 2 none, Cond.methodLink RX7 94 yX7_applyMove, Cond.instanceMethod yX7_applyMove, Cond.selects RX7 yX7_applyMove yX7_applyMove, Cond.code yX7_applyMove cX7_applyMove 2 none, Cond.methodLink RX7 97 yX7_applyDiscard, Cond.instanceMethod yX7_applyDiscard]
def wsX8_undo_r9 : List Cond := [Cond.selects RX7 yX7_applyDiscard yX7_applyDiscard, Cond.code yX7_applyDiscard cX7_applyDiscard 2 none, Cond.methodLink RX7 100 yX7_applyUndo, Cond.instanceMethod yX7_applyUndo, Cond.selects RX7 yX7_applyUndo yX7_applyUndo, Cond.code yX7_applyUndo cX7_applyUndo 2 none, Cond.methodLink RX7 123 yX4_stepBack, Cond.instanceMethod yX4_stepBack, Cond.selects RX4 yX4_stepBack yX4_stepBack, Cond.code yX4_stepBack cX4_stepBack 1 (some .boolean), Cond.methodLink RX7 127 yX4_samplesBefore, Cond.instanceMethod yX4_samplesBefore, Cond.selects RX4 yX4_samplesBefore yX4_samplesBefore, Cond.code yX4_samplesBefore cX4_samplesBefore 1 (some .int), Cond.methodLink RX7 130 yX4_lostBefore, Cond.instanceMethod yX4_lostBefore, Cond.selects RX4 yX4_lostBefore yX4_lostBefore, Cond.code yX4_lostBefore cX4_lostBefore 1 (some .long), Cond.methodLink RX7 133 yX4_touched, Cond.instanceMethod yX4_touched, Cond.selects RX4 yX4_touched yX4_touched, Cond.code yX4_touched cX4_touched 1 (some .int), Cond.methodLink RX7 136 yX4_wellBefore, Cond.instanceMethod yX4_wellBefore]
def wsX8_undo_r10 : List Cond := [Cond.selects RX4 yX4_wellBefore yX4_wellBefore, Cond.code yX4_wellBefore cX4_wellBefore 1 (some .int), Cond.methodLink RX7 139 yX4_volumeBefore, Cond.instanceMethod yX4_volumeBefore, Cond.selects RX4 yX4_volumeBefore yX4_volumeBefore, Cond.code yX4_volumeBefore cX4_volumeBefore 1 (some .long), Cond.methodLink RX7 103 yX7_applyKept, Cond.instanceMethod yX7_applyKept, Cond.selects RX7 yX7_applyKept yX7_applyKept, Cond.code yX7_applyKept cX7_applyKept 2 none]
def wsX8_undo : List Cond := .code yX8_undo cX8_undo 2 (some .int) :: ((wsX8_undo_r1 ++ (wsX8_undo_r2 ++ (wsX8_undo_r3 ++ (wsX8_undo_r4 ++ (wsX8_undo_r5 ++ (wsX8_undo_r6 ++ (wsX8_undo_r7 ++ (wsX8_undo_r8 ++ (wsX8_undo_r9 ++ wsX8_undo_r10))))))))) ++ wsX80 ++ wsX20 ++ wsX60 ++ wsX30 ++ wsX00 ++ wsX70 ++ wsX40 ++ wsX50)
def wsX8_compact_r1 : List Cond := [Cond.fieldLink RX8 12 "SampleTracker" "power" "LSampleTracker$Power;", Cond.fieldLink RX8 30 "SampleTracker" "journal" "LSampleTracker$Journal;", Cond.fieldLink RX8 37 "SampleTracker" "table" "LSampleTracker$Table;", Cond.fieldLink RX8 44 "SampleTracker" "entry" "LSampleTracker$Entry;", Cond.methodLink RX8 83 yX6_isUp, Cond.instanceMethod yX6_isUp, Cond.selects RX6 yX6_isUp yX6_isUp, Cond.initialized RX6, Cond.code yX6_isUp cX6_isUp 1 (some .boolean), Cond.fieldLink RX6 7 "SampleTracker$Power" "up" "Z", Cond.methodLink RX8 64 yX7_sampleCount, Cond.instanceMethod yX7_sampleCount, Cond.selects RX7 yX7_sampleCount yX7_sampleCount, Cond.initialized RX7, Cond.code yX7_sampleCount cX7_sampleCount 1 (some .int), Cond.fieldLink RX7 33 "SampleTracker$Table" "samples" "I", Cond.methodLink RX8 90 yX3_otherBankHolds, Cond.instanceMethod yX3_otherBankHolds, Cond.selects RX3 yX3_otherBankHolds yX3_otherBankHolds, Cond.initialized RX3, Cond.code yX3_otherBankHolds cX3_otherBankHolds 2 (some .boolean), Cond.methodLink RX3 66 yX3_bankBytes, Cond.instanceMethod yX3_bankBytes, Cond.selects RX3 yX3_bankBytes yX3_bankBytes]
def wsX8_compact_r2 : List Cond := [Cond.code yX3_bankBytes cX3_bankBytes 1 (some .int), Cond.fieldLink RX3 27 "SampleTracker$Journal" "first" "LSampleTracker$Bank;", Cond.methodLink RX3 49 yX0_size, Cond.instanceMethod yX0_size, Cond.selects RX0 yX0_size yX0_size, Cond.initialized RX0, Cond.code yX0_size cX0_size 1 (some .int), Cond.fieldLink RX0 15 "SampleTracker$Bank" "bytes" "[B", Cond.methodLink RX8 93 yX3_writeAnew, Cond.instanceMethod yX3_writeAnew, Cond.selects RX3 yX3_writeAnew yX3_writeAnew, Cond.code yX3_writeAnew cX3_writeAnew 6 (some .boolean), Cond.fieldLink RX3 9 "SampleTracker$Journal" "inUse" "I", Cond.fieldLink RX3 39 "SampleTracker$Journal" "pen" "LSampleTracker$Pen;", Cond.fieldLink RX3 18 "SampleTracker$Journal" "power" "LSampleTracker$Power;", Cond.fieldLink RX3 15 "SampleTracker$Journal" "end" "I", Cond.methodLink RX3 53 yX3_bank, Cond.instanceMethod yX3_bank, Cond.selects RX3 yX3_bank yX3_bank, Cond.code yX3_bank cX3_bank 2 (some (.object "SampleTracker$Bank")), Cond.fieldLink RX3 31 "SampleTracker$Journal" "second" "LSampleTracker$Bank;", Cond.methodLink RX3 69 yX5_goTo, Cond.instanceMethod yX5_goTo, Cond.selects RX5 yX5_goTo yX5_goTo]
def wsX8_compact_r3 : List Cond := [Cond.initialized RX5, Cond.code yX5_goTo cX5_goTo 3 none, Cond.fieldLink RX5 24 "SampleTracker$Pen" "bank" "LSampleTracker$Bank;", Cond.fieldLink RX5 9 "SampleTracker$Pen" "position" "I", Cond.methodLink RX3 84 yX5_writeZeros, Cond.instanceMethod yX5_writeZeros, Cond.selects RX5 yX5_writeZeros yX5_writeZeros, Cond.code yX5_writeZeros cX5_writeZeros 3 none, Cond.methodLink RX5 28 yX5_writeByte, Cond.instanceMethod yX5_writeByte, Cond.selects RX5 yX5_writeByte yX5_writeByte, Cond.code yX5_writeByte cX5_writeByte 2 none, Cond.fieldLink RX5 20 "SampleTracker$Pen" "power" "LSampleTracker$Power;", Cond.methodLink RX5 73 yX6_letByteThrough, Cond.instanceMethod yX6_letByteThrough, Cond.selects RX6 yX6_letByteThrough yX6_letByteThrough, Cond.code yX6_letByteThrough cX6_letByteThrough 2 (some .boolean), Cond.fieldLink RX6 13 "SampleTracker$Power" "cutWaits" "Z", Cond.fieldLink RX6 16 "SampleTracker$Power" "bytesLeft" "I", Cond.fieldLink RX6 20 "SampleTracker$Power" "written" "I", Cond.fieldLink RX6 23 "SampleTracker$Power" "failed" "I", Cond.methodLink RX5 78 yX0_put, Cond.instanceMethod yX0_put, Cond.selects RX0 yX0_put yX0_put]
def wsX8_compact_r4 : List Cond := [Cond.code yX0_put cX0_put 3 none, Cond.methodLink RX3 87 yX7_lostVolume, Cond.instanceMethod yX7_lostVolume, Cond.selects RX7 yX7_lostVolume yX7_lostVolume, Cond.code yX7_lostVolume cX7_lostVolume 1 (some .long), Cond.fieldLink RX7 37 "SampleTracker$Table" "lost" "J", Cond.methodLink RX3 93 yX2_set, Cond.instanceMethod yX2_set, Cond.selects RX2 yX2_set yX2_set, Cond.initialized RX2, Cond.code yX2_set cX2_set 6 none, Cond.fieldLink RX2 9 "SampleTracker$Entry" "kind" "I", Cond.fieldLink RX2 15 "SampleTracker$Entry" "sample" "I", Cond.fieldLink RX2 18 "SampleTracker$Entry" "well" "I", Cond.fieldLink RX2 21 "SampleTracker$Entry" "volume" "J", Cond.methodLink RX3 73 yX5_writeRecord, Cond.instanceMethod yX5_writeRecord, Cond.selects RX5 yX5_writeRecord yX5_writeRecord, Cond.code yX5_writeRecord cX5_writeRecord 2 none, Cond.fieldLink RX5 17 "SampleTracker$Pen" "crc" "I", Cond.methodLink RX5 40 yX2_length, Cond.instanceMethod yX2_length, Cond.selects RX2 yX2_length yX2_length, Cond.code yX2_length cX2_length 1 (some .int)]
def wsX8_compact_r5 : List Cond := [Cond.methodLink RX2 25 yX2_hasSample, Cond.instanceMethod yX2_hasSample, Cond.selects RX2 yX2_hasSample yX2_hasSample, Cond.code yX2_hasSample cX2_hasSample 1 (some .boolean), Cond.methodLink RX2 29 yX2_hasWell, Cond.instanceMethod yX2_hasWell, Cond.selects RX2 yX2_hasWell yX2_hasWell, Cond.code yX2_hasWell cX2_hasWell 1 (some .boolean), Cond.methodLink RX2 32 yX2_hasVolume, Cond.instanceMethod yX2_hasVolume, Cond.selects RX2 yX2_hasVolume yX2_hasVolume, Cond.code yX2_hasVolume cX2_hasVolume 1 (some .boolean), Cond.methodLink RX5 32 yX5_writeNumber, Cond.instanceMethod yX5_writeNumber, Cond.selects RX5 yX5_writeNumber yX5_writeNumber, Cond.code yX5_writeNumber cX5_writeNumber 6 none, Cond.methodLink RX5 69 yX1_step, Cond.static yX1_step, Cond.initialized RX1, Cond.code yX1_step cX1_step 3 (some .int), Cond.fieldLink RX1 7 "SampleTracker$Crc" "OF_HALF_BYTE" "[I", Cond.methodLink RX5 49 yX2_hasSample, Cond.methodLink RX5 56 yX2_hasWell, Cond.methodLink RX5 62 yX2_hasVolume]
def wsX8_compact_r6 : List Cond := [Cond.methodLink RX5 36 yX1_end, Cond.static yX1_end, Cond.code yX1_end cX1_end 1 (some .int), Cond.methodLink RX3 97 yX7_sampleCount, Cond.methodLink RX3 100 yX7_isLive, Cond.instanceMethod yX7_isLive, Cond.selects RX7 yX7_isLive yX7_isLive, Cond.code yX7_isLive cX7_isLive 2 (some .boolean), Cond.methodLink RX7 41 yX7_wellOf, Cond.instanceMethod yX7_wellOf, Cond.selects RX7 yX7_wellOf yX7_wellOf, Cond.code yX7_wellOf cX7_wellOf 2 (some .int), Cond.fieldLink RX7 15 "SampleTracker$Table" "wells" "[I", Cond.methodLink RX7 45 yX7_isSample, Cond.instanceMethod yX7_isSample, Cond.selects RX7 yX7_isSample yX7_isSample, Cond.code yX7_isSample cX7_isSample 2 (some .boolean), Cond.methodLink RX3 104 yX7_wellOf, Cond.methodLink RX3 108 yX7_parentOf, Cond.instanceMethod yX7_parentOf, Cond.selects RX7 yX7_parentOf yX7_parentOf, Cond.code yX7_parentOf cX7_parentOf 2 (some .int), Cond.fieldLink RX7 9 "SampleTracker$Table" "parents" "[I", Cond.methodLink RX3 111 yX7_volumeOf]
def wsX8_compact_r7 : List Cond := [Cond.instanceMethod yX7_volumeOf, Cond.selects RX7 yX7_volumeOf yX7_volumeOf, Cond.code yX7_volumeOf cX7_volumeOf 2 (some .long), Cond.fieldLink RX7 18 "SampleTracker$Table" "volumes" "[J", Cond.constantLong RX7 49 (-1), Cond.methodLink RX3 81 yX5_position, Cond.instanceMethod yX5_position, Cond.selects RX5 yX5_position yX5_position, Cond.code yX5_position cX5_position 1 (some .int), Cond.methodLink RX3 115 yX3_generation, Cond.instanceMethod yX3_generation, Cond.selects RX3 yX3_generation yX3_generation, Cond.code yX3_generation cX3_generation 1 (some .int), Cond.methodLink RX3 57 yX0_number, Cond.instanceMethod yX0_number, Cond.selects RX0 yX0_number yX0_number, Cond.code yX0_number cX0_number 6 (some .long), Cond.methodLink RX0 21 yX0_at, Cond.instanceMethod yX0_at, Cond.selects RX0 yX0_at yX0_at, Cond.code yX0_at cX0_at 2 (some .int), Cond.methodLink RX3 46 yX5_writeHead, Cond.instanceMethod yX5_writeHead, Cond.selects RX5 yX5_writeHead yX5_writeHead]
def wsX8_compact_r8 : List Cond := [Cond.code yX5_writeHead cX5_writeHead 2 none, Cond.methodLink RX3 77 yX6_isUp, Cond.methodLink RX8 97 yX7_forgetPast, Cond.instanceMethod yX7_forgetPast, Cond.selects RX7 yX7_forgetPast yX7_forgetPast, Cond.code yX7_forgetPast cX7_forgetPast 1 none, Cond.fieldLink RX7 29 "SampleTracker$Table" "past" "LSampleTracker$Past;", Cond.methodLink RX7 79 yX4_forget, Cond.instanceMethod yX4_forget, Cond.selects RX4 yX4_forget yX4_forget, Cond.initialized RX4, Cond.code yX4_forget cX4_forget 1 none, Cond.fieldLink RX4 28 "SampleTracker$Past" "size" "I"]
def wsX8_compact : List Cond := .code yX8_compact cX8_compact 1 (some .int) :: ((wsX8_compact_r1 ++ (wsX8_compact_r2 ++ (wsX8_compact_r3 ++ (wsX8_compact_r4 ++ (wsX8_compact_r5 ++ (wsX8_compact_r6 ++ (wsX8_compact_r7 ++ wsX8_compact_r8))))))) ++ wsX80 ++ wsX60 ++ wsX70 ++ wsX30 ++ wsX00 ++ wsX50 ++ wsX20 ++ wsX40)
def wsX8_cut : List Cond := .code yX8_cut cX8_cut 2 (some .int) :: ([.fieldLink RX8 12 "SampleTracker" "power" "LSampleTracker$Power;", .methodLink RX8 83 yX6_isUp, .instanceMethod yX6_isUp, .selects RX6 yX6_isUp yX6_isUp, .initialized RX6, .code yX6_isUp cX6_isUp 1 (some .boolean), .fieldLink RX6 7 "SampleTracker$Power" "up" "Z", .methodLink RX8 100 yX6_failBehind, .instanceMethod yX6_failBehind, .selects RX6 yX6_failBehind yX6_failBehind, .code yX6_failBehind cX6_failBehind 2 none, .fieldLink RX6 13 "SampleTracker$Power" "cutWaits" "Z", .fieldLink RX6 16 "SampleTracker$Power" "bytesLeft" "I"] ++ wsX80 ++ wsX60)
def wsX8_recover_r1 : List Cond := [Cond.fieldLink RX8 12 "SampleTracker" "power" "LSampleTracker$Power;", Cond.fieldLink RX8 30 "SampleTracker" "journal" "LSampleTracker$Journal;", Cond.fieldLink RX8 37 "SampleTracker" "table" "LSampleTracker$Table;", Cond.fieldLink RX8 44 "SampleTracker" "entry" "LSampleTracker$Entry;", Cond.methodLink RX8 104 yX6_restore, Cond.instanceMethod yX6_restore, Cond.selects RX6 yX6_restore yX6_restore, Cond.initialized RX6, Cond.code yX6_restore cX6_restore 1 none, Cond.fieldLink RX6 7 "SampleTracker$Power" "up" "Z", Cond.fieldLink RX6 13 "SampleTracker$Power" "cutWaits" "Z", Cond.methodLink RX8 107 yX3_chooseBank, Cond.instanceMethod yX3_chooseBank, Cond.selects RX3 yX3_chooseBank yX3_chooseBank, Cond.initialized RX3, Cond.code yX3_chooseBank cX3_chooseBank 4 none, Cond.fieldLink RX3 27 "SampleTracker$Journal" "first" "LSampleTracker$Bank;", Cond.fieldLink RX3 31 "SampleTracker$Journal" "second" "LSampleTracker$Bank;", Cond.fieldLink RX3 9 "SampleTracker$Journal" "inUse" "I", Cond.fieldLink RX3 15 "SampleTracker$Journal" "end" "I", Cond.methodLink RX3 118 yX0_hasRightHead, Cond.instanceMethod yX0_hasRightHead, Cond.selects RX0 yX0_hasRightHead yX0_hasRightHead, Cond.initialized RX0]
def wsX8_recover_r2 : List Cond := [Cond.code yX0_hasRightHead cX0_hasRightHead 1 (some .boolean), Cond.methodLink RX0 25 yX0_isClosedRight, Cond.instanceMethod yX0_isClosedRight, Cond.selects RX0 yX0_isClosedRight yX0_isClosedRight, Cond.code yX0_isClosedRight cX0_isClosedRight 6 (some .boolean), Cond.methodLink RX0 21 yX0_at, Cond.instanceMethod yX0_at, Cond.selects RX0 yX0_at yX0_at, Cond.code yX0_at cX0_at 2 (some .int), Cond.fieldLink RX0 15 "SampleTracker$Bank" "bytes" "[B", Cond.methodLink RX0 35 yX1_step, Cond.static yX1_step, Cond.initialized RX1, Cond.code yX1_step cX1_step 3 (some .int), Cond.fieldLink RX1 7 "SampleTracker$Crc" "OF_HALF_BYTE" "[I", Cond.methodLink RX0 29 yX0_number, Cond.instanceMethod yX0_number, Cond.selects RX0 yX0_number yX0_number, Cond.code yX0_number cX0_number 6 (some .long), Cond.methodLink RX0 38 yX1_end, Cond.static yX1_end, Cond.code yX1_end cX1_end 1 (some .int), Cond.methodLink RX3 57 yX0_number, Cond.methodLink RX8 110 yX7_makeEmpty]
def wsX8_recover_r3 : List Cond := [Cond.instanceMethod yX7_makeEmpty, Cond.selects RX7 yX7_makeEmpty yX7_makeEmpty, Cond.initialized RX7, Cond.code yX7_makeEmpty cX7_makeEmpty 1 none, Cond.fieldLink RX7 33 "SampleTracker$Table" "samples" "I", Cond.fieldLink RX7 37 "SampleTracker$Table" "lost" "J", Cond.fieldLink RX7 29 "SampleTracker$Table" "past" "LSampleTracker$Past;", Cond.methodLink RX7 79 yX4_forget, Cond.instanceMethod yX4_forget, Cond.selects RX4 yX4_forget yX4_forget, Cond.initialized RX4, Cond.code yX4_forget cX4_forget 1 none, Cond.fieldLink RX4 28 "SampleTracker$Past" "size" "I", Cond.methodLink RX8 113 yX3_readNext, Cond.instanceMethod yX3_readNext, Cond.selects RX3 yX3_readNext yX3_readNext, Cond.code yX3_readNext cX3_readNext 3 (some .boolean), Cond.methodLink RX3 53 yX3_bank, Cond.instanceMethod yX3_bank, Cond.selects RX3 yX3_bank yX3_bank, Cond.code yX3_bank cX3_bank 2 (some (.object "SampleTracker$Bank")), Cond.methodLink RX3 121 yX0_wholeRecordAt, Cond.instanceMethod yX0_wholeRecordAt, Cond.selects RX0 yX0_wholeRecordAt yX0_wholeRecordAt]
def wsX8_recover_r4 : List Cond := [Cond.code yX0_wholeRecordAt cX0_wholeRecordAt 4 (some .int), Cond.methodLink RX3 124 yX2_readFrom, Cond.instanceMethod yX2_readFrom, Cond.selects RX2 yX2_readFrom yX2_readFrom, Cond.initialized RX2, Cond.code yX2_readFrom cX2_readFrom 4 none, Cond.fieldLink RX2 9 "SampleTracker$Entry" "kind" "I", Cond.fieldLink RX2 15 "SampleTracker$Entry" "sample" "I", Cond.fieldLink RX2 18 "SampleTracker$Entry" "well" "I", Cond.fieldLink RX2 21 "SampleTracker$Entry" "volume" "J", Cond.methodLink RX2 35 yX0_at, Cond.methodLink RX2 25 yX2_hasSample, Cond.instanceMethod yX2_hasSample, Cond.selects RX2 yX2_hasSample yX2_hasSample, Cond.code yX2_hasSample cX2_hasSample 1 (some .boolean), Cond.methodLink RX2 41 yX0_number, Cond.methodLink RX2 29 yX2_hasWell, Cond.instanceMethod yX2_hasWell, Cond.selects RX2 yX2_hasWell yX2_hasWell, Cond.code yX2_hasWell cX2_hasWell 1 (some .boolean), Cond.methodLink RX2 32 yX2_hasVolume, Cond.instanceMethod yX2_hasVolume, Cond.selects RX2 yX2_hasVolume yX2_hasVolume, Cond.code yX2_hasVolume cX2_hasVolume 1 (some .boolean)]
def wsX8_recover_r5 : List Cond := [Cond.methodLink RX8 117 yX7_apply, Cond.instanceMethod yX7_apply, Cond.selects RX7 yX7_apply yX7_apply, Cond.code yX7_apply cX7_apply 2 none, Cond.methodLink RX7 87 yX7_applyRegister, Cond.instanceMethod yX7_applyRegister, Cond.selects RX7 yX7_applyRegister yX7_applyRegister, Cond.code yX7_applyRegister cX7_applyRegister 2 none, Cond.methodLink RX7 109 yX7_remember, Cond.instanceMethod yX7_remember, Cond.selects RX7 yX7_remember yX7_remember, Cond.code yX7_remember cX7_remember 2 none, Cond.methodLink RX7 41 yX7_wellOf, Cond.instanceMethod yX7_wellOf, Cond.selects RX7 yX7_wellOf yX7_wellOf, Cond.code yX7_wellOf cX7_wellOf 2 (some .int), Cond.fieldLink RX7 15 "SampleTracker$Table" "wells" "[I", Cond.methodLink RX7 45 yX7_isSample, Cond.instanceMethod yX7_isSample, Cond.selects RX7 yX7_isSample yX7_isSample, Cond.code yX7_isSample cX7_isSample 2 (some .boolean), Cond.methodLink RX7 63 yX7_volumeOf, Cond.instanceMethod yX7_volumeOf, Cond.selects RX7 yX7_volumeOf yX7_volumeOf]
def wsX8_recover_r6 : List Cond := [Cond.code yX7_volumeOf cX7_volumeOf 2 (some .long), Cond.fieldLink RX7 18 "SampleTracker$Table" "volumes" "[J", Cond.constantLong RX7 49 (-1), Cond.methodLink RX7 142 yX4_add, Cond.instanceMethod yX4_add, Cond.selects RX4 yX4_add yX4_add, Cond.code yX4_add cX4_add 8 none, Cond.fieldLink RX4 9 "SampleTracker$Past" "samples" "[I", Cond.fieldLink RX4 15 "SampleTracker$Past" "lost" "[J", Cond.fieldLink RX4 19 "SampleTracker$Past" "touched" "[I", Cond.fieldLink RX4 22 "SampleTracker$Past" "wells" "[I", Cond.fieldLink RX4 25 "SampleTracker$Past" "volumes" "[J", Cond.methodLink RX7 116 yX7_addSample, Cond.instanceMethod yX7_addSample, Cond.selects RX7 yX7_addSample yX7_addSample, Cond.code yX7_addSample cX7_addSample 5 none, Cond.fieldLink RX7 9 "SampleTracker$Table" "parents" "[I", Cond.methodLink RX7 146 yX7_isFull, Cond.instanceMethod yX7_isFull, Cond.selects RX7 yX7_isFull yX7_isFull, Cond.code yX7_isFull cX7_isFull 1 (some .boolean), Cond.methodLink RX7 91 yX7_applyAliquot, Cond.instanceMethod yX7_applyAliquot, Cond.selects RX7 yX7_applyAliquot yX7_applyAliquot]
def wsX8_recover_r7 : List Cond := [Cond.code yX7_applyAliquot cX7_applyAliquot 2 none, Cond.methodLink RX7 94 yX7_applyMove, Cond.instanceMethod yX7_applyMove, Cond.selects RX7 yX7_applyMove yX7_applyMove, Cond.code yX7_applyMove cX7_applyMove 2 none, Cond.methodLink RX7 97 yX7_applyDiscard, Cond.instanceMethod yX7_applyDiscard, Cond.selects RX7 yX7_applyDiscard yX7_applyDiscard, Cond.code yX7_applyDiscard cX7_applyDiscard 2 none, Cond.methodLink RX7 100 yX7_applyUndo, Cond.instanceMethod yX7_applyUndo, Cond.selects RX7 yX7_applyUndo yX7_applyUndo, Cond.code yX7_applyUndo cX7_applyUndo 2 none, Cond.methodLink RX7 123 yX4_stepBack, Cond.instanceMethod yX4_stepBack, Cond.selects RX4 yX4_stepBack yX4_stepBack, Cond.code yX4_stepBack cX4_stepBack 1 (some .boolean), Cond.methodLink RX7 127 yX4_samplesBefore, Cond.instanceMethod yX4_samplesBefore, Cond.selects RX4 yX4_samplesBefore yX4_samplesBefore, Cond.code yX4_samplesBefore cX4_samplesBefore 1 (some .int), Cond.methodLink RX7 130 yX4_lostBefore, Cond.instanceMethod yX4_lostBefore, Cond.selects RX4 yX4_lostBefore yX4_lostBefore]
def wsX8_recover_r8 : List Cond := [Cond.code yX4_lostBefore cX4_lostBefore 1 (some .long), Cond.methodLink RX7 133 yX4_touched, Cond.instanceMethod yX4_touched, Cond.selects RX4 yX4_touched yX4_touched, Cond.code yX4_touched cX4_touched 1 (some .int), Cond.methodLink RX7 136 yX4_wellBefore, Cond.instanceMethod yX4_wellBefore, Cond.selects RX4 yX4_wellBefore yX4_wellBefore, Cond.code yX4_wellBefore cX4_wellBefore 1 (some .int), Cond.methodLink RX7 139 yX4_volumeBefore, Cond.instanceMethod yX4_volumeBefore, Cond.selects RX4 yX4_volumeBefore yX4_volumeBefore, Cond.code yX4_volumeBefore cX4_volumeBefore 1 (some .long), Cond.methodLink RX7 103 yX7_applyKept, Cond.instanceMethod yX7_applyKept, Cond.selects RX7 yX7_applyKept yX7_applyKept, Cond.code yX7_applyKept cX7_applyKept 2 none, Cond.methodLink RX8 121 yX3_blankTheRest, Cond.instanceMethod yX3_blankTheRest, Cond.selects RX3 yX3_blankTheRest yX3_blankTheRest, Cond.code yX3_blankTheRest cX3_blankTheRest 1 none, Cond.methodLink RX3 127 yX0_blankFrom, Cond.instanceMethod yX0_blankFrom, Cond.selects RX0 yX0_blankFrom yX0_blankFrom]
def wsX8_recover_r9 : List Cond := [Cond.code yX0_blankFrom cX0_blankFrom 3 none, Cond.methodLink RX0 9 Lib.Math.max.name, Cond.static Lib.Math.max.name, Cond.initialized "java/lang/Math", Cond.code Lib.Math.max.name Lib.Math.max.code 2 (some .int)]
def wsX8_recover : List Cond := .code yX8_recover cX8_recover 2 (some .int) :: ((wsX8_recover_r1 ++ (wsX8_recover_r2 ++ (wsX8_recover_r3 ++ (wsX8_recover_r4 ++ (wsX8_recover_r5 ++ (wsX8_recover_r6 ++ (wsX8_recover_r7 ++ (wsX8_recover_r8 ++ wsX8_recover_r9)))))))) ++ wsX80 ++ wsX60 ++ wsX30 ++ wsX00 ++ wsX70 ++ wsX40 ++ wsX20)
def wsX8_octet : List Cond := .code yX8_octet cX8_octet 3 (some .int) :: ([.fieldLink RX8 30 "SampleTracker" "journal" "LSampleTracker$Journal;", .methodLink RX8 124 yX3_bank, .instanceMethod yX3_bank, .selects RX3 yX3_bank yX3_bank, .initialized RX3, .code yX3_bank cX3_bank 2 (some (.object "SampleTracker$Bank")), .fieldLink RX3 27 "SampleTracker$Journal" "first" "LSampleTracker$Bank;", .fieldLink RX3 31 "SampleTracker$Journal" "second" "LSampleTracker$Bank;", .methodLink RX8 128 yX0_at, .instanceMethod yX0_at, .selects RX0 yX0_at yX0_at, .initialized RX0, .code yX0_at cX0_at 2 (some .int), .fieldLink RX0 15 "SampleTracker$Bank" "bytes" "[B"] ++ wsX80 ++ wsX30 ++ wsX00)
def wsX8_sample_r1 : List Cond := [Cond.fieldLink RX8 12 "SampleTracker" "power" "LSampleTracker$Power;", Cond.fieldLink RX8 37 "SampleTracker" "table" "LSampleTracker$Table;", Cond.methodLink RX8 83 yX6_isUp, Cond.instanceMethod yX6_isUp, Cond.selects RX6 yX6_isUp yX6_isUp, Cond.initialized RX6, Cond.code yX6_isUp cX6_isUp 1 (some .boolean), Cond.fieldLink RX6 7 "SampleTracker$Power" "up" "Z", Cond.methodLink RX8 133 yX7_isSample, Cond.instanceMethod yX7_isSample, Cond.selects RX7 yX7_isSample yX7_isSample, Cond.initialized RX7, Cond.code yX7_isSample cX7_isSample 2 (some .boolean), Cond.fieldLink RX7 33 "SampleTracker$Table" "samples" "I", Cond.methodLink RX8 136 yX7_parentOf, Cond.instanceMethod yX7_parentOf, Cond.selects RX7 yX7_parentOf yX7_parentOf, Cond.code yX7_parentOf cX7_parentOf 2 (some .int), Cond.fieldLink RX7 9 "SampleTracker$Table" "parents" "[I", Cond.methodLink RX7 45 yX7_isSample, Cond.methodLink RX8 139 yX7_wellOf, Cond.instanceMethod yX7_wellOf, Cond.selects RX7 yX7_wellOf yX7_wellOf, Cond.code yX7_wellOf cX7_wellOf 2 (some .int)]
def wsX8_sample_r2 : List Cond := [Cond.fieldLink RX7 15 "SampleTracker$Table" "wells" "[I", Cond.methodLink RX8 142 yX7_childrenOf, Cond.instanceMethod yX7_childrenOf, Cond.selects RX7 yX7_childrenOf yX7_childrenOf, Cond.code yX7_childrenOf cX7_childrenOf 4 (some .int), Cond.methodLink RX7 57 yX7_parentOf, Cond.methodLink RX8 145 yX7_stepsToOrigin, Cond.instanceMethod yX7_stepsToOrigin, Cond.selects RX7 yX7_stepsToOrigin yX7_stepsToOrigin, Cond.code yX7_stepsToOrigin cX7_stepsToOrigin 4 (some .int), Cond.methodLink RX8 148 yX7_originOf, Cond.instanceMethod yX7_originOf, Cond.selects RX7 yX7_originOf yX7_originOf, Cond.code yX7_originOf cX7_originOf 4 (some .int), Cond.methodLink RX7 60 yX7_stepsToOrigin]
def wsX8_sample : List Cond := .code yX8_sample cX8_sample 3 (some .int) :: ((wsX8_sample_r1 ++ wsX8_sample_r2) ++ wsX80 ++ wsX60 ++ wsX70)
def wsX8_volume : List Cond := .code yX8_volume cX8_volume 2 (some .long) :: ([.fieldLink RX8 12 "SampleTracker" "power" "LSampleTracker$Power;", .fieldLink RX8 37 "SampleTracker" "table" "LSampleTracker$Table;", .constantLong RX8 151 (-1), .methodLink RX8 83 yX6_isUp, .instanceMethod yX6_isUp, .selects RX6 yX6_isUp yX6_isUp, .initialized RX6, .code yX6_isUp cX6_isUp 1 (some .boolean), .fieldLink RX6 7 "SampleTracker$Power" "up" "Z", .methodLink RX8 72 yX7_volumeOf, .instanceMethod yX7_volumeOf, .selects RX7 yX7_volumeOf yX7_volumeOf, .initialized RX7, .code yX7_volumeOf cX7_volumeOf 2 (some .long), .fieldLink RX7 18 "SampleTracker$Table" "volumes" "[J", .constantLong RX7 49 (-1), .methodLink RX7 45 yX7_isSample, .instanceMethod yX7_isSample, .selects RX7 yX7_isSample yX7_isSample, .code yX7_isSample cX7_isSample 2 (some .boolean), .fieldLink RX7 33 "SampleTracker$Table" "samples" "I"] ++ wsX80 ++ wsX60 ++ wsX70)
def wsX8_well_r1 : List Cond := [Cond.fieldLink RX8 12 "SampleTracker" "power" "LSampleTracker$Power;", Cond.fieldLink RX8 37 "SampleTracker" "table" "LSampleTracker$Table;", Cond.methodLink RX8 83 yX6_isUp, Cond.instanceMethod yX6_isUp, Cond.selects RX6 yX6_isUp yX6_isUp, Cond.initialized RX6, Cond.code yX6_isUp cX6_isUp 1 (some .boolean), Cond.fieldLink RX6 7 "SampleTracker$Power" "up" "Z", Cond.methodLink RX8 153 yX7_sampleIn, Cond.instanceMethod yX7_sampleIn, Cond.selects RX7 yX7_sampleIn yX7_sampleIn, Cond.initialized RX7, Cond.code yX7_sampleIn cX7_sampleIn 3 (some .int), Cond.fieldLink RX7 33 "SampleTracker$Table" "samples" "I", Cond.static yX8_isWell, Cond.initialized RX8, Cond.code yX8_isWell cX8_isWell 1 (some .boolean), Cond.methodLink RX7 41 yX7_wellOf, Cond.instanceMethod yX7_wellOf, Cond.selects RX7 yX7_wellOf yX7_wellOf, Cond.code yX7_wellOf cX7_wellOf 2 (some .int), Cond.fieldLink RX7 15 "SampleTracker$Table" "wells" "[I", Cond.methodLink RX7 45 yX7_isSample, Cond.instanceMethod yX7_isSample]
def wsX8_well_r2 : List Cond := [Cond.selects RX7 yX7_isSample yX7_isSample, Cond.code yX7_isSample cX7_isSample 2 (some .boolean)]
def wsX8_well : List Cond := .code yX8_well cX8_well 2 (some .int) :: ((wsX8_well_r1 ++ wsX8_well_r2) ++ wsX80 ++ wsX60 ++ wsX70)
def wsX8_total_r1 : List Cond := [Cond.fieldLink RX8 12 "SampleTracker" "power" "LSampleTracker$Power;", Cond.constantLong RX8 151 (-1), Cond.fieldLink RX8 37 "SampleTracker" "table" "LSampleTracker$Table;", Cond.methodLink RX8 83 yX6_isUp, Cond.instanceMethod yX6_isUp, Cond.selects RX6 yX6_isUp yX6_isUp, Cond.initialized RX6, Cond.code yX6_isUp cX6_isUp 1 (some .boolean), Cond.fieldLink RX6 7 "SampleTracker$Power" "up" "Z", Cond.methodLink RX8 156 yX7_liveVolume, Cond.instanceMethod yX7_liveVolume, Cond.selects RX7 yX7_liveVolume yX7_liveVolume, Cond.initialized RX7, Cond.code yX7_liveVolume cX7_liveVolume 4 (some .long), Cond.fieldLink RX7 33 "SampleTracker$Table" "samples" "I", Cond.methodLink RX7 63 yX7_volumeOf, Cond.instanceMethod yX7_volumeOf, Cond.selects RX7 yX7_volumeOf yX7_volumeOf, Cond.code yX7_volumeOf cX7_volumeOf 2 (some .long), Cond.fieldLink RX7 18 "SampleTracker$Table" "volumes" "[J", Cond.constantLong RX7 49 (-1), Cond.methodLink RX7 45 yX7_isSample, Cond.instanceMethod yX7_isSample, Cond.selects RX7 yX7_isSample yX7_isSample]
def wsX8_total_r2 : List Cond := [Cond.code yX7_isSample cX7_isSample 2 (some .boolean), Cond.methodLink RX8 159 yX7_lostVolume, Cond.instanceMethod yX7_lostVolume, Cond.selects RX7 yX7_lostVolume yX7_lostVolume, Cond.code yX7_lostVolume cX7_lostVolume 1 (some .long), Cond.fieldLink RX7 37 "SampleTracker$Table" "lost" "J", Cond.methodLink RX8 162 yX7_volumeOfFamily, Cond.instanceMethod yX7_volumeOfFamily, Cond.selects RX7 yX7_volumeOfFamily yX7_volumeOfFamily, Cond.code yX7_volumeOfFamily cX7_volumeOfFamily 6 (some .long), Cond.fieldLink RX7 22 "SampleTracker$Table" "inFamily" "[Z", Cond.methodLink RX7 57 yX7_parentOf, Cond.instanceMethod yX7_parentOf, Cond.selects RX7 yX7_parentOf yX7_parentOf, Cond.code yX7_parentOf cX7_parentOf 2 (some .int), Cond.fieldLink RX7 9 "SampleTracker$Table" "parents" "[I"]
def wsX8_total : List Cond := .code yX8_total cX8_total 3 (some .long) :: ((wsX8_total_r1 ++ wsX8_total_r2) ++ wsX80 ++ wsX60 ++ wsX70)
def wsX8_countWithPower_r1 : List Cond := [Cond.fieldLink RX8 30 "SampleTracker" "journal" "LSampleTracker$Journal;", Cond.fieldLink RX8 37 "SampleTracker" "table" "LSampleTracker$Table;", Cond.methodLink RX8 177 yX3_bankInUse, Cond.instanceMethod yX3_bankInUse, Cond.selects RX3 yX3_bankInUse yX3_bankInUse, Cond.initialized RX3, Cond.code yX3_bankInUse cX3_bankInUse 1 (some .int), Cond.fieldLink RX3 9 "SampleTracker$Journal" "inUse" "I", Cond.methodLink RX8 180 yX3_generation, Cond.instanceMethod yX3_generation, Cond.selects RX3 yX3_generation yX3_generation, Cond.code yX3_generation cX3_generation 1 (some .int), Cond.methodLink RX3 53 yX3_bank, Cond.instanceMethod yX3_bank, Cond.selects RX3 yX3_bank yX3_bank, Cond.code yX3_bank cX3_bank 2 (some (.object "SampleTracker$Bank")), Cond.fieldLink RX3 27 "SampleTracker$Journal" "first" "LSampleTracker$Bank;", Cond.fieldLink RX3 31 "SampleTracker$Journal" "second" "LSampleTracker$Bank;", Cond.methodLink RX3 57 yX0_number, Cond.instanceMethod yX0_number, Cond.selects RX0 yX0_number yX0_number, Cond.initialized RX0, Cond.code yX0_number cX0_number 6 (some .long), Cond.methodLink RX0 21 yX0_at]
def wsX8_countWithPower_r2 : List Cond := [Cond.instanceMethod yX0_at, Cond.selects RX0 yX0_at yX0_at, Cond.code yX0_at cX0_at 2 (some .int), Cond.fieldLink RX0 15 "SampleTracker$Bank" "bytes" "[B", Cond.methodLink RX8 183 yX3_end, Cond.instanceMethod yX3_end, Cond.selects RX3 yX3_end yX3_end, Cond.code yX3_end cX3_end 1 (some .int), Cond.fieldLink RX3 15 "SampleTracker$Journal" "end" "I", Cond.methodLink RX8 64 yX7_sampleCount, Cond.instanceMethod yX7_sampleCount, Cond.selects RX7 yX7_sampleCount yX7_sampleCount, Cond.initialized RX7, Cond.code yX7_sampleCount cX7_sampleCount 1 (some .int), Cond.fieldLink RX7 33 "SampleTracker$Table" "samples" "I", Cond.methodLink RX8 186 yX7_liveCount, Cond.instanceMethod yX7_liveCount, Cond.selects RX7 yX7_liveCount yX7_liveCount, Cond.code yX7_liveCount cX7_liveCount 3 (some .int), Cond.methodLink RX7 54 yX7_isLive, Cond.instanceMethod yX7_isLive, Cond.selects RX7 yX7_isLive yX7_isLive, Cond.code yX7_isLive cX7_isLive 2 (some .boolean), Cond.methodLink RX7 41 yX7_wellOf]
def wsX8_countWithPower_r3 : List Cond := [Cond.instanceMethod yX7_wellOf, Cond.selects RX7 yX7_wellOf yX7_wellOf, Cond.code yX7_wellOf cX7_wellOf 2 (some .int), Cond.fieldLink RX7 15 "SampleTracker$Table" "wells" "[I", Cond.methodLink RX7 45 yX7_isSample, Cond.instanceMethod yX7_isSample, Cond.selects RX7 yX7_isSample yX7_isSample, Cond.code yX7_isSample cX7_isSample 2 (some .boolean), Cond.methodLink RX8 87 yX7_pastActs, Cond.instanceMethod yX7_pastActs, Cond.selects RX7 yX7_pastActs yX7_pastActs, Cond.code yX7_pastActs cX7_pastActs 1 (some .int), Cond.fieldLink RX7 29 "SampleTracker$Table" "past" "LSampleTracker$Past;", Cond.methodLink RX7 75 yX4_size, Cond.instanceMethod yX4_size, Cond.selects RX4 yX4_size yX4_size, Cond.initialized RX4, Cond.code yX4_size cX4_size 1 (some .int), Cond.fieldLink RX4 28 "SampleTracker$Past" "size" "I"]
def wsX8_countWithPower : List Cond := .code yX8_countWithPower cX8_countWithPower 2 (some .int) :: ((wsX8_countWithPower_r1 ++ (wsX8_countWithPower_r2 ++ wsX8_countWithPower_r3)) ++ wsX80 ++ wsX30 ++ wsX00 ++ wsX70 ++ wsX40)
def wsX8_count_r1 : List Cond := [Cond.fieldLink RX8 12 "SampleTracker" "power" "LSampleTracker$Power;", Cond.fieldLink RX8 30 "SampleTracker" "journal" "LSampleTracker$Journal;", Cond.methodLink RX8 83 yX6_isUp, Cond.instanceMethod yX6_isUp, Cond.selects RX6 yX6_isUp yX6_isUp, Cond.initialized RX6, Cond.code yX6_isUp cX6_isUp 1 (some .boolean), Cond.fieldLink RX6 7 "SampleTracker$Power" "up" "Z", Cond.methodLink RX8 165 yX3_bankBytes, Cond.instanceMethod yX3_bankBytes, Cond.selects RX3 yX3_bankBytes yX3_bankBytes, Cond.initialized RX3, Cond.code yX3_bankBytes cX3_bankBytes 1 (some .int), Cond.fieldLink RX3 27 "SampleTracker$Journal" "first" "LSampleTracker$Bank;", Cond.methodLink RX3 49 yX0_size, Cond.instanceMethod yX0_size, Cond.selects RX0 yX0_size yX0_size, Cond.initialized RX0, Cond.code yX0_size cX0_size 1 (some .int), Cond.fieldLink RX0 15 "SampleTracker$Bank" "bytes" "[B", Cond.methodLink RX8 168 yX6_bytesWritten, Cond.instanceMethod yX6_bytesWritten, Cond.selects RX6 yX6_bytesWritten yX6_bytesWritten, Cond.code yX6_bytesWritten cX6_bytesWritten 1 (some .int)]
def wsX8_count_r2 : List Cond := [Cond.fieldLink RX6 20 "SampleTracker$Power" "written" "I", Cond.methodLink RX8 171 yX6_failures, Cond.instanceMethod yX6_failures, Cond.selects RX6 yX6_failures yX6_failures, Cond.code yX6_failures cX6_failures 1 (some .int), Cond.fieldLink RX6 23 "SampleTracker$Power" "failed" "I", Cond.methodLink RX8 174 yX8_countWithPower, Cond.instanceMethod yX8_countWithPower, Cond.selects RX8 yX8_countWithPower yX8_countWithPower, Cond.initialized RX8, Cond.code yX8_countWithPower cX8_countWithPower 2 (some .int), Cond.fieldLink RX8 37 "SampleTracker" "table" "LSampleTracker$Table;", Cond.methodLink RX8 177 yX3_bankInUse, Cond.instanceMethod yX3_bankInUse, Cond.selects RX3 yX3_bankInUse yX3_bankInUse, Cond.code yX3_bankInUse cX3_bankInUse 1 (some .int), Cond.fieldLink RX3 9 "SampleTracker$Journal" "inUse" "I", Cond.methodLink RX8 180 yX3_generation, Cond.instanceMethod yX3_generation, Cond.selects RX3 yX3_generation yX3_generation, Cond.code yX3_generation cX3_generation 1 (some .int), Cond.methodLink RX3 53 yX3_bank, Cond.instanceMethod yX3_bank, Cond.selects RX3 yX3_bank yX3_bank]
def wsX8_count_r3 : List Cond := [Cond.code yX3_bank cX3_bank 2 (some (.object "SampleTracker$Bank")), Cond.fieldLink RX3 31 "SampleTracker$Journal" "second" "LSampleTracker$Bank;", Cond.methodLink RX3 57 yX0_number, Cond.instanceMethod yX0_number, Cond.selects RX0 yX0_number yX0_number, Cond.code yX0_number cX0_number 6 (some .long), Cond.methodLink RX0 21 yX0_at, Cond.instanceMethod yX0_at, Cond.selects RX0 yX0_at yX0_at, Cond.code yX0_at cX0_at 2 (some .int), Cond.methodLink RX8 183 yX3_end, Cond.instanceMethod yX3_end, Cond.selects RX3 yX3_end yX3_end, Cond.code yX3_end cX3_end 1 (some .int), Cond.fieldLink RX3 15 "SampleTracker$Journal" "end" "I", Cond.methodLink RX8 64 yX7_sampleCount, Cond.instanceMethod yX7_sampleCount, Cond.selects RX7 yX7_sampleCount yX7_sampleCount, Cond.initialized RX7, Cond.code yX7_sampleCount cX7_sampleCount 1 (some .int), Cond.fieldLink RX7 33 "SampleTracker$Table" "samples" "I", Cond.methodLink RX8 186 yX7_liveCount, Cond.instanceMethod yX7_liveCount, Cond.selects RX7 yX7_liveCount yX7_liveCount]
def wsX8_count_r4 : List Cond := [Cond.code yX7_liveCount cX7_liveCount 3 (some .int), Cond.methodLink RX7 54 yX7_isLive, Cond.instanceMethod yX7_isLive, Cond.selects RX7 yX7_isLive yX7_isLive, Cond.code yX7_isLive cX7_isLive 2 (some .boolean), Cond.methodLink RX7 41 yX7_wellOf, Cond.instanceMethod yX7_wellOf, Cond.selects RX7 yX7_wellOf yX7_wellOf, Cond.code yX7_wellOf cX7_wellOf 2 (some .int), Cond.fieldLink RX7 15 "SampleTracker$Table" "wells" "[I", Cond.methodLink RX7 45 yX7_isSample, Cond.instanceMethod yX7_isSample, Cond.selects RX7 yX7_isSample yX7_isSample, Cond.code yX7_isSample cX7_isSample 2 (some .boolean), Cond.methodLink RX8 87 yX7_pastActs, Cond.instanceMethod yX7_pastActs, Cond.selects RX7 yX7_pastActs yX7_pastActs, Cond.code yX7_pastActs cX7_pastActs 1 (some .int), Cond.fieldLink RX7 29 "SampleTracker$Table" "past" "LSampleTracker$Past;", Cond.methodLink RX7 75 yX4_size, Cond.instanceMethod yX4_size, Cond.selects RX4 yX4_size yX4_size, Cond.initialized RX4, Cond.code yX4_size cX4_size 1 (some .int)]
def wsX8_count_r5 : List Cond := [Cond.fieldLink RX4 28 "SampleTracker$Past" "size" "I"]
def wsX8_count : List Cond := .code yX8_count cX8_count 2 (some .int) :: ((wsX8_count_r1 ++ (wsX8_count_r2 ++ (wsX8_count_r3 ++ (wsX8_count_r4 ++ wsX8_count_r5)))) ++ wsX80 ++ wsX60 ++ wsX30 ++ wsX00 ++ wsX70 ++ wsX40)
def wsX9_u1 : List Cond := .code yX9_u1 cX9_u1 2 none :: ([.fieldLink RX9 28 "SampleTrackerModel" "row" "[B", .fieldLink RX9 43 "SampleTrackerModel" "size" "I"] ++ wsX90)
def wsX9_u2 : List Cond := .code yX9_u2 cX9_u2 2 none :: ([.methodLink RX9 54 yX9_u1, .instanceMethod yX9_u1, .selects RX9 yX9_u1 yX9_u1, .initialized RX9, .code yX9_u1 cX9_u1 2 none, .fieldLink RX9 28 "SampleTrackerModel" "row" "[B", .fieldLink RX9 43 "SampleTrackerModel" "size" "I"] ++ wsX90)
def wsX9_u4 : List Cond := .code yX9_u4 cX9_u4 2 none :: ([.methodLink RX9 63 yX9_u2, .instanceMethod yX9_u2, .selects RX9 yX9_u2 yX9_u2, .initialized RX9, .code yX9_u2 cX9_u2 2 none, .methodLink RX9 54 yX9_u1, .instanceMethod yX9_u1, .selects RX9 yX9_u1 yX9_u1, .code yX9_u1 cX9_u1 2 none, .fieldLink RX9 28 "SampleTrackerModel" "row" "[B", .fieldLink RX9 43 "SampleTrackerModel" "size" "I"] ++ wsX90)
def wsX9_crc : List Cond := .code yX9_crc cX9_crc 6 (some .int) :: ([.constant RX9 66 (-306674912)])
def wsX9_take : List Cond := .code yX9_take cX9_take 6 (some .long) :: ([])
def wsX9_whole : List Cond := .code yX9_whole cX9_whole 4 (some .int) :: ([.fieldLink RX9 40 "SampleTrackerModel" "bank" "[[B", .fieldLink RX9 100 "SampleTrackerModel" "use" "I", .fieldLink RX9 35 "SampleTrackerModel" "bytes" "I", .methodLink RX9 88 yX9_take, .static yX9_take, .initialized RX9, .code yX9_take cX9_take 6 (some .long), .methodLink RX9 50 yX9_crc, .static yX9_crc, .code yX9_crc cX9_crc 6 (some .int), .constant RX9 66 (-306674912)] ++ wsX90)
def wsX9_comes : List Cond := .code yX9_comes cX9_comes 6 none :: ([.fieldLink RX9 115 "SampleTrackerModel" "samples" "I", .fieldLink RX9 13 "SampleTrackerModel" "parent" "[I", .fieldLink RX9 17 "SampleTrackerModel" "well" "[I", .fieldLink RX9 24 "SampleTrackerModel" "volume" "[J", .fieldLink RX9 20 "SampleTrackerModel" "live" "[Z"] ++ wsX90)
def wsX9_apply : List Cond := .code yX9_apply cX9_apply 4 none :: ([.fieldLink RX9 24 "SampleTrackerModel" "volume" "[J", .fieldLink RX9 17 "SampleTrackerModel" "well" "[I", .fieldLink RX9 118 "SampleTrackerModel" "lost" "J", .fieldLink RX9 20 "SampleTrackerModel" "live" "[Z", .methodLink RX9 88 yX9_take, .static yX9_take, .initialized RX9, .code yX9_take cX9_take 6 (some .long), .methodLink RX9 126 yX9_comes, .instanceMethod yX9_comes, .selects RX9 yX9_comes yX9_comes, .code yX9_comes cX9_comes 6 none, .fieldLink RX9 115 "SampleTrackerModel" "samples" "I", .fieldLink RX9 13 "SampleTrackerModel" "parent" "[I"] ++ wsX90)
def wsX9_reads_r1 : List Cond := [Cond.fieldLink RX9 40 "SampleTrackerModel" "bank" "[[B", Cond.fieldLink RX9 100 "SampleTrackerModel" "use" "I", Cond.fieldLink RX9 106 "SampleTrackerModel" "records" "I", Cond.fieldLink RX9 109 "SampleTrackerModel" "undoable" "I", Cond.fieldLink RX9 32 "SampleTrackerModel" "places" "[I", Cond.fieldLink RX9 103 "SampleTrackerModel" "end" "I", Cond.fieldLink RX9 115 "SampleTrackerModel" "samples" "I", Cond.fieldLink RX9 118 "SampleTrackerModel" "lost" "J", Cond.methodLink RX9 112 yX9_whole, Cond.instanceMethod yX9_whole, Cond.selects RX9 yX9_whole yX9_whole, Cond.initialized RX9, Cond.code yX9_whole cX9_whole 4 (some .int), Cond.fieldLink RX9 35 "SampleTrackerModel" "bytes" "I", Cond.methodLink RX9 88 yX9_take, Cond.static yX9_take, Cond.code yX9_take cX9_take 6 (some .long), Cond.methodLink RX9 50 yX9_crc, Cond.static yX9_crc, Cond.code yX9_crc cX9_crc 6 (some .int), Cond.constant RX9 66 (-306674912), Cond.methodLink RX9 122 yX9_apply, Cond.instanceMethod yX9_apply, Cond.selects RX9 yX9_apply yX9_apply]
def wsX9_reads_r2 : List Cond := [Cond.code yX9_apply cX9_apply 4 none, Cond.fieldLink RX9 24 "SampleTrackerModel" "volume" "[J", Cond.fieldLink RX9 17 "SampleTrackerModel" "well" "[I", Cond.fieldLink RX9 20 "SampleTrackerModel" "live" "[Z", Cond.methodLink RX9 126 yX9_comes, Cond.instanceMethod yX9_comes, Cond.selects RX9 yX9_comes yX9_comes, Cond.code yX9_comes cX9_comes 6 none, Cond.fieldLink RX9 13 "SampleTrackerModel" "parent" "[I"]
def wsX9_reads : List Cond := .code yX9_reads cX9_reads 6 none :: ((wsX9_reads_r1 ++ wsX9_reads_r2) ++ wsX90)
def wsX9_init_r1 : List Cond := [Cond.methodLink RX9 1 objectInit, Cond.instanceMethod objectInit, Cond.code objectInit ⟨#[0xb1]⟩ 1 none, Cond.fieldLink RX9 9 "SampleTrackerModel" "left" "I", Cond.arrayClass .int, Cond.fieldLink RX9 13 "SampleTrackerModel" "parent" "[I", Cond.fieldLink RX9 17 "SampleTrackerModel" "well" "[I", Cond.arrayClass .boolean, Cond.fieldLink RX9 20 "SampleTrackerModel" "live" "[Z", Cond.arrayClass .long, Cond.fieldLink RX9 24 "SampleTrackerModel" "volume" "[J", Cond.arrayClass .byte, Cond.fieldLink RX9 28 "SampleTrackerModel" "row" "[B", Cond.fieldLink RX9 32 "SampleTrackerModel" "places" "[I", Cond.fieldLink RX9 35 "SampleTrackerModel" "bytes" "I", Cond.classLink RX9 38 "[[B", Cond.fieldLink RX9 40 "SampleTrackerModel" "bank" "[[B", Cond.fieldLink RX9 43 "SampleTrackerModel" "size" "I", Cond.methodLink RX9 46 yX9_u4, Cond.instanceMethod yX9_u4, Cond.selects RX9 yX9_u4 yX9_u4, Cond.initialized RX9, Cond.code yX9_u4 cX9_u4 2 none, Cond.methodLink RX9 63 yX9_u2]
def wsX9_init_r2 : List Cond := [Cond.instanceMethod yX9_u2, Cond.selects RX9 yX9_u2 yX9_u2, Cond.code yX9_u2 cX9_u2 2 none, Cond.methodLink RX9 54 yX9_u1, Cond.instanceMethod yX9_u1, Cond.selects RX9 yX9_u1 yX9_u1, Cond.code yX9_u1 cX9_u1 2 none, Cond.methodLink RX9 50 yX9_crc, Cond.static yX9_crc, Cond.code yX9_crc cX9_crc 6 (some .int), Cond.constant RX9 66 (-306674912), Cond.methodLink RX9 57 yX9_reads, Cond.instanceMethod yX9_reads, Cond.selects RX9 yX9_reads yX9_reads, Cond.code yX9_reads cX9_reads 6 none, Cond.fieldLink RX9 100 "SampleTrackerModel" "use" "I", Cond.fieldLink RX9 106 "SampleTrackerModel" "records" "I", Cond.fieldLink RX9 109 "SampleTrackerModel" "undoable" "I", Cond.fieldLink RX9 103 "SampleTrackerModel" "end" "I", Cond.fieldLink RX9 115 "SampleTrackerModel" "samples" "I", Cond.fieldLink RX9 118 "SampleTrackerModel" "lost" "J", Cond.methodLink RX9 112 yX9_whole, Cond.instanceMethod yX9_whole, Cond.selects RX9 yX9_whole yX9_whole]
def wsX9_init_r3 : List Cond := [Cond.code yX9_whole cX9_whole 4 (some .int), Cond.methodLink RX9 88 yX9_take, Cond.static yX9_take, Cond.code yX9_take cX9_take 6 (some .long), Cond.methodLink RX9 122 yX9_apply, Cond.instanceMethod yX9_apply, Cond.selects RX9 yX9_apply yX9_apply, Cond.code yX9_apply cX9_apply 4 none, Cond.methodLink RX9 126 yX9_comes, Cond.instanceMethod yX9_comes, Cond.selects RX9 yX9_comes yX9_comes, Cond.code yX9_comes cX9_comes 6 none]
def wsX9_init : List Cond := .code yX9_init cX9_init 3 none :: ((wsX9_init_r1 ++ (wsX9_init_r2 ++ wsX9_init_r3)) ++ wsX90)
def wsX9_u8 : List Cond := .code yX9_u8 cX9_u8 3 none :: ([.methodLink RX9 46 yX9_u4, .instanceMethod yX9_u4, .selects RX9 yX9_u4 yX9_u4, .initialized RX9, .code yX9_u4 cX9_u4 2 none, .methodLink RX9 63 yX9_u2, .instanceMethod yX9_u2, .selects RX9 yX9_u2 yX9_u2, .code yX9_u2 cX9_u2 2 none, .methodLink RX9 54 yX9_u1, .instanceMethod yX9_u1, .selects RX9 yX9_u1 yX9_u1, .code yX9_u1 cX9_u1 2 none, .fieldLink RX9 28 "SampleTrackerModel" "row" "[B", .fieldLink RX9 43 "SampleTrackerModel" "size" "I"] ++ wsX90)
def wsX9_lengthOf : List Cond := .code yX9_lengthOf cX9_lengthOf 1 (some .int) :: ([])
def wsX9_begin : List Cond := .code yX9_begin cX9_begin 2 none :: ([.fieldLink RX9 43 "SampleTrackerModel" "size" "I", .methodLink RX9 67 yX9_lengthOf, .static yX9_lengthOf, .initialized RX9, .code yX9_lengthOf cX9_lengthOf 1 (some .int), .methodLink RX9 63 yX9_u2, .instanceMethod yX9_u2, .selects RX9 yX9_u2 yX9_u2, .code yX9_u2 cX9_u2 2 none, .methodLink RX9 54 yX9_u1, .instanceMethod yX9_u1, .selects RX9 yX9_u1 yX9_u1, .code yX9_u1 cX9_u1 2 none, .fieldLink RX9 28 "SampleTrackerModel" "row" "[B"] ++ wsX90)
def wsX9_checked : List Cond := .code yX9_checked cX9_checked 1 none :: ([.fieldLink RX9 28 "SampleTrackerModel" "row" "[B", .fieldLink RX9 43 "SampleTrackerModel" "size" "I", .methodLink RX9 50 yX9_crc, .static yX9_crc, .initialized RX9, .code yX9_crc cX9_crc 6 (some .int), .constant RX9 66 (-306674912), .methodLink RX9 46 yX9_u4, .instanceMethod yX9_u4, .selects RX9 yX9_u4 yX9_u4, .code yX9_u4 cX9_u4 2 none, .methodLink RX9 63 yX9_u2, .instanceMethod yX9_u2, .selects RX9 yX9_u2 yX9_u2, .code yX9_u2 cX9_u2 2 none, .methodLink RX9 54 yX9_u1, .instanceMethod yX9_u1, .selects RX9 yX9_u1 yX9_u1, .code yX9_u1 cX9_u1 2 none] ++ wsX90)
def wsX9_fails : List Cond := .code yX9_fails cX9_fails 1 none :: ([.fieldLink RX9 77 "SampleTrackerModel" "isDown" "Z", .fieldLink RX9 81 "SampleTrackerModel" "failures" "I", .fieldLink RX9 9 "SampleTrackerModel" "left" "I"] ++ wsX90)
def wsX9_write : List Cond := .code yX9_write cX9_write 4 (some .boolean) :: ([.fieldLink RX9 9 "SampleTrackerModel" "left" "I", .fieldLink RX9 40 "SampleTrackerModel" "bank" "[[B", .fieldLink RX9 74 "SampleTrackerModel" "written" "I", .methodLink RX9 71 yX9_fails, .instanceMethod yX9_fails, .selects RX9 yX9_fails yX9_fails, .initialized RX9, .code yX9_fails cX9_fails 1 none, .fieldLink RX9 77 "SampleTrackerModel" "isDown" "Z", .fieldLink RX9 81 "SampleTrackerModel" "failures" "I"] ++ wsX90)
def wsX9_writeRow : List Cond := .code yX9_writeRow cX9_writeRow 4 (some .boolean) :: ([.fieldLink RX9 43 "SampleTrackerModel" "size" "I", .fieldLink RX9 28 "SampleTrackerModel" "row" "[B", .methodLink RX9 84 yX9_write, .instanceMethod yX9_write, .selects RX9 yX9_write yX9_write, .initialized RX9, .code yX9_write cX9_write 4 (some .boolean), .fieldLink RX9 9 "SampleTrackerModel" "left" "I", .fieldLink RX9 40 "SampleTrackerModel" "bank" "[[B", .fieldLink RX9 74 "SampleTrackerModel" "written" "I", .methodLink RX9 71 yX9_fails, .instanceMethod yX9_fails, .selects RX9 yX9_fails yX9_fails, .code yX9_fails cX9_fails 1 none, .fieldLink RX9 77 "SampleTrackerModel" "isDown" "Z", .fieldLink RX9 81 "SampleTrackerModel" "failures" "I"] ++ wsX90)
def wsX9_cut : List Cond := .code yX9_cut cX9_cut 2 (some .int) :: ([.fieldLink RX9 77 "SampleTrackerModel" "isDown" "Z", .fieldLink RX9 9 "SampleTrackerModel" "left" "I"] ++ wsX90)
def wsX9_isRight : List Cond := .code yX9_isRight cX9_isRight 2 (some .boolean) :: ([.fieldLink RX9 40 "SampleTrackerModel" "bank" "[[B", .methodLink RX9 88 yX9_take, .static yX9_take, .initialized RX9, .code yX9_take cX9_take 6 (some .long), .methodLink RX9 50 yX9_crc, .static yX9_crc, .code yX9_crc cX9_crc 6 (some .int), .constant RX9 66 (-306674912)] ++ wsX90)
def wsX9_generation : List Cond := .code yX9_generation cX9_generation 2 (some .long) :: ([.fieldLink RX9 40 "SampleTrackerModel" "bank" "[[B", .methodLink RX9 88 yX9_take, .static yX9_take, .initialized RX9, .code yX9_take cX9_take 6 (some .long)] ++ wsX90)
def wsX9_recover_r1 : List Cond := [Cond.fieldLink RX9 100 "SampleTrackerModel" "use" "I", Cond.fieldLink RX9 103 "SampleTrackerModel" "end" "I", Cond.fieldLink RX9 35 "SampleTrackerModel" "bytes" "I", Cond.fieldLink RX9 40 "SampleTrackerModel" "bank" "[[B", Cond.fieldLink RX9 77 "SampleTrackerModel" "isDown" "Z", Cond.fieldLink RX9 9 "SampleTrackerModel" "left" "I", Cond.fieldLink RX9 106 "SampleTrackerModel" "records" "I", Cond.methodLink RX9 92 yX9_isRight, Cond.instanceMethod yX9_isRight, Cond.selects RX9 yX9_isRight yX9_isRight, Cond.initialized RX9, Cond.code yX9_isRight cX9_isRight 2 (some .boolean), Cond.methodLink RX9 88 yX9_take, Cond.static yX9_take, Cond.code yX9_take cX9_take 6 (some .long), Cond.methodLink RX9 50 yX9_crc, Cond.static yX9_crc, Cond.code yX9_crc cX9_crc 6 (some .int), Cond.constant RX9 66 (-306674912), Cond.methodLink RX9 96 yX9_generation, Cond.instanceMethod yX9_generation, Cond.selects RX9 yX9_generation yX9_generation, Cond.code yX9_generation cX9_generation 2 (some .long), Cond.methodLink RX9 57 yX9_reads]
def wsX9_recover_r2 : List Cond := [Cond.instanceMethod yX9_reads, Cond.selects RX9 yX9_reads yX9_reads, Cond.code yX9_reads cX9_reads 6 none, Cond.fieldLink RX9 109 "SampleTrackerModel" "undoable" "I", Cond.fieldLink RX9 32 "SampleTrackerModel" "places" "[I", Cond.fieldLink RX9 115 "SampleTrackerModel" "samples" "I", Cond.fieldLink RX9 118 "SampleTrackerModel" "lost" "J", Cond.methodLink RX9 112 yX9_whole, Cond.instanceMethod yX9_whole, Cond.selects RX9 yX9_whole yX9_whole, Cond.code yX9_whole cX9_whole 4 (some .int), Cond.methodLink RX9 122 yX9_apply, Cond.instanceMethod yX9_apply, Cond.selects RX9 yX9_apply yX9_apply, Cond.code yX9_apply cX9_apply 4 none, Cond.fieldLink RX9 24 "SampleTrackerModel" "volume" "[J", Cond.fieldLink RX9 17 "SampleTrackerModel" "well" "[I", Cond.fieldLink RX9 20 "SampleTrackerModel" "live" "[Z", Cond.methodLink RX9 126 yX9_comes, Cond.instanceMethod yX9_comes, Cond.selects RX9 yX9_comes yX9_comes, Cond.code yX9_comes cX9_comes 6 none, Cond.fieldLink RX9 13 "SampleTrackerModel" "parent" "[I"]
def wsX9_recover : List Cond := .code yX9_recover cX9_recover 3 (some .int) :: ((wsX9_recover_r1 ++ wsX9_recover_r2) ++ wsX90)
def wsX9_liveIn : List Cond := .code yX9_liveIn cX9_liveIn 3 (some .int) :: ([.fieldLink RX9 115 "SampleTrackerModel" "samples" "I", .fieldLink RX9 20 "SampleTrackerModel" "live" "[Z", .fieldLink RX9 17 "SampleTrackerModel" "well" "[I"] ++ wsX90)
def wsX9_isLive : List Cond := .code yX9_isLive cX9_isLive 2 (some .boolean) :: ([.fieldLink RX9 115 "SampleTrackerModel" "samples" "I", .fieldLink RX9 20 "SampleTrackerModel" "live" "[Z"] ++ wsX90)
def wsX9_isWell : List Cond := .code yX9_isWell cX9_isWell 1 (some .boolean) :: ([])
def wsX9_liveVolume : List Cond := .code yX9_liveVolume cX9_liveVolume 4 (some .long) :: ([.fieldLink RX9 115 "SampleTrackerModel" "samples" "I", .fieldLink RX9 24 "SampleTrackerModel" "volume" "[J"] ++ wsX90)
def wsX9_hasRoom : List Cond := .code yX9_hasRoom cX9_hasRoom 2 (some .boolean) :: ([.fieldLink RX9 103 "SampleTrackerModel" "end" "I", .fieldLink RX9 35 "SampleTrackerModel" "bytes" "I", .methodLink RX9 67 yX9_lengthOf, .static yX9_lengthOf, .initialized RX9, .code yX9_lengthOf cX9_lengthOf 1 (some .int)] ++ wsX90)
def wsX9_acts_r1 : List Cond := [Cond.fieldLink RX9 100 "SampleTrackerModel" "use" "I", Cond.fieldLink RX9 103 "SampleTrackerModel" "end" "I", Cond.methodLink RX9 130 yX9_checked, Cond.instanceMethod yX9_checked, Cond.selects RX9 yX9_checked yX9_checked, Cond.initialized RX9, Cond.code yX9_checked cX9_checked 1 none, Cond.fieldLink RX9 28 "SampleTrackerModel" "row" "[B", Cond.fieldLink RX9 43 "SampleTrackerModel" "size" "I", Cond.methodLink RX9 50 yX9_crc, Cond.static yX9_crc, Cond.code yX9_crc cX9_crc 6 (some .int), Cond.constant RX9 66 (-306674912), Cond.methodLink RX9 46 yX9_u4, Cond.instanceMethod yX9_u4, Cond.selects RX9 yX9_u4 yX9_u4, Cond.code yX9_u4 cX9_u4 2 none, Cond.methodLink RX9 63 yX9_u2, Cond.instanceMethod yX9_u2, Cond.selects RX9 yX9_u2 yX9_u2, Cond.code yX9_u2 cX9_u2 2 none, Cond.methodLink RX9 54 yX9_u1, Cond.instanceMethod yX9_u1, Cond.selects RX9 yX9_u1 yX9_u1]
def wsX9_acts_r2 : List Cond := [Cond.code yX9_u1 cX9_u1 2 none, Cond.methodLink RX9 133 yX9_writeRow, Cond.instanceMethod yX9_writeRow, Cond.selects RX9 yX9_writeRow yX9_writeRow, Cond.code yX9_writeRow cX9_writeRow 4 (some .boolean), Cond.methodLink RX9 84 yX9_write, Cond.instanceMethod yX9_write, Cond.selects RX9 yX9_write yX9_write, Cond.code yX9_write cX9_write 4 (some .boolean), Cond.fieldLink RX9 9 "SampleTrackerModel" "left" "I", Cond.fieldLink RX9 40 "SampleTrackerModel" "bank" "[[B", Cond.fieldLink RX9 74 "SampleTrackerModel" "written" "I", Cond.methodLink RX9 71 yX9_fails, Cond.instanceMethod yX9_fails, Cond.selects RX9 yX9_fails yX9_fails, Cond.code yX9_fails cX9_fails 1 none, Cond.fieldLink RX9 77 "SampleTrackerModel" "isDown" "Z", Cond.fieldLink RX9 81 "SampleTrackerModel" "failures" "I", Cond.methodLink RX9 57 yX9_reads, Cond.instanceMethod yX9_reads, Cond.selects RX9 yX9_reads yX9_reads, Cond.code yX9_reads cX9_reads 6 none, Cond.fieldLink RX9 106 "SampleTrackerModel" "records" "I", Cond.fieldLink RX9 109 "SampleTrackerModel" "undoable" "I"]
def wsX9_acts_r3 : List Cond := [Cond.fieldLink RX9 32 "SampleTrackerModel" "places" "[I", Cond.fieldLink RX9 115 "SampleTrackerModel" "samples" "I", Cond.fieldLink RX9 118 "SampleTrackerModel" "lost" "J", Cond.methodLink RX9 112 yX9_whole, Cond.instanceMethod yX9_whole, Cond.selects RX9 yX9_whole yX9_whole, Cond.code yX9_whole cX9_whole 4 (some .int), Cond.fieldLink RX9 35 "SampleTrackerModel" "bytes" "I", Cond.methodLink RX9 88 yX9_take, Cond.static yX9_take, Cond.code yX9_take cX9_take 6 (some .long), Cond.methodLink RX9 122 yX9_apply, Cond.instanceMethod yX9_apply, Cond.selects RX9 yX9_apply yX9_apply, Cond.code yX9_apply cX9_apply 4 none, Cond.fieldLink RX9 24 "SampleTrackerModel" "volume" "[J", Cond.fieldLink RX9 17 "SampleTrackerModel" "well" "[I", Cond.fieldLink RX9 20 "SampleTrackerModel" "live" "[Z", Cond.methodLink RX9 126 yX9_comes, Cond.instanceMethod yX9_comes, Cond.selects RX9 yX9_comes yX9_comes, Cond.code yX9_comes cX9_comes 6 none, Cond.fieldLink RX9 13 "SampleTrackerModel" "parent" "[I"]
def wsX9_acts : List Cond := .code yX9_acts cX9_acts 1 (some .boolean) :: ((wsX9_acts_r1 ++ (wsX9_acts_r2 ++ wsX9_acts_r3)) ++ wsX90)
def wsX9_register_r1 : List Cond := [Cond.fieldLink RX9 77 "SampleTrackerModel" "isDown" "Z", Cond.fieldLink RX9 118 "SampleTrackerModel" "lost" "J", Cond.constantLong RX9 149 (9223372036854775807), Cond.fieldLink RX9 115 "SampleTrackerModel" "samples" "I", Cond.methodLink RX9 137 yX9_isWell, Cond.static yX9_isWell, Cond.initialized RX9, Cond.code yX9_isWell cX9_isWell 1 (some .boolean), Cond.methodLink RX9 140 yX9_liveIn, Cond.instanceMethod yX9_liveIn, Cond.selects RX9 yX9_liveIn yX9_liveIn, Cond.code yX9_liveIn cX9_liveIn 3 (some .int), Cond.fieldLink RX9 20 "SampleTrackerModel" "live" "[Z", Cond.fieldLink RX9 17 "SampleTrackerModel" "well" "[I", Cond.methodLink RX9 143 yX9_liveVolume, Cond.instanceMethod yX9_liveVolume, Cond.selects RX9 yX9_liveVolume yX9_liveVolume, Cond.code yX9_liveVolume cX9_liveVolume 4 (some .long), Cond.fieldLink RX9 24 "SampleTrackerModel" "volume" "[J", Cond.methodLink RX9 151 yX9_hasRoom, Cond.instanceMethod yX9_hasRoom, Cond.selects RX9 yX9_hasRoom yX9_hasRoom, Cond.code yX9_hasRoom cX9_hasRoom 2 (some .boolean), Cond.fieldLink RX9 103 "SampleTrackerModel" "end" "I"]
def wsX9_register_r2 : List Cond := [Cond.fieldLink RX9 35 "SampleTrackerModel" "bytes" "I", Cond.methodLink RX9 67 yX9_lengthOf, Cond.static yX9_lengthOf, Cond.code yX9_lengthOf cX9_lengthOf 1 (some .int), Cond.methodLink RX9 154 yX9_begin, Cond.instanceMethod yX9_begin, Cond.selects RX9 yX9_begin yX9_begin, Cond.code yX9_begin cX9_begin 2 none, Cond.fieldLink RX9 43 "SampleTrackerModel" "size" "I", Cond.methodLink RX9 63 yX9_u2, Cond.instanceMethod yX9_u2, Cond.selects RX9 yX9_u2 yX9_u2, Cond.code yX9_u2 cX9_u2 2 none, Cond.methodLink RX9 54 yX9_u1, Cond.instanceMethod yX9_u1, Cond.selects RX9 yX9_u1 yX9_u1, Cond.code yX9_u1 cX9_u1 2 none, Cond.fieldLink RX9 28 "SampleTrackerModel" "row" "[B", Cond.methodLink RX9 157 yX9_u8, Cond.instanceMethod yX9_u8, Cond.selects RX9 yX9_u8 yX9_u8, Cond.code yX9_u8 cX9_u8 3 none, Cond.methodLink RX9 46 yX9_u4, Cond.instanceMethod yX9_u4]
def wsX9_register_r3 : List Cond := [Cond.selects RX9 yX9_u4 yX9_u4, Cond.code yX9_u4 cX9_u4 2 none, Cond.methodLink RX9 161 yX9_acts, Cond.instanceMethod yX9_acts, Cond.selects RX9 yX9_acts yX9_acts, Cond.code yX9_acts cX9_acts 1 (some .boolean), Cond.fieldLink RX9 100 "SampleTrackerModel" "use" "I", Cond.methodLink RX9 130 yX9_checked, Cond.instanceMethod yX9_checked, Cond.selects RX9 yX9_checked yX9_checked, Cond.code yX9_checked cX9_checked 1 none, Cond.methodLink RX9 50 yX9_crc, Cond.static yX9_crc, Cond.code yX9_crc cX9_crc 6 (some .int), Cond.constant RX9 66 (-306674912), Cond.methodLink RX9 133 yX9_writeRow, Cond.instanceMethod yX9_writeRow, Cond.selects RX9 yX9_writeRow yX9_writeRow, Cond.code yX9_writeRow cX9_writeRow 4 (some .boolean), Cond.methodLink RX9 84 yX9_write, Cond.instanceMethod yX9_write, Cond.selects RX9 yX9_write yX9_write, Cond.code yX9_write cX9_write 4 (some .boolean), Cond.fieldLink RX9 9 "SampleTrackerModel" "left" "I"]
def wsX9_register_r4 : List Cond := [Cond.fieldLink RX9 40 "SampleTrackerModel" "bank" "[[B", Cond.fieldLink RX9 74 "SampleTrackerModel" "written" "I", Cond.methodLink RX9 71 yX9_fails, Cond.instanceMethod yX9_fails, Cond.selects RX9 yX9_fails yX9_fails, Cond.code yX9_fails cX9_fails 1 none, Cond.fieldLink RX9 81 "SampleTrackerModel" "failures" "I", Cond.methodLink RX9 57 yX9_reads, Cond.instanceMethod yX9_reads, Cond.selects RX9 yX9_reads yX9_reads, Cond.code yX9_reads cX9_reads 6 none, Cond.fieldLink RX9 106 "SampleTrackerModel" "records" "I", Cond.fieldLink RX9 109 "SampleTrackerModel" "undoable" "I", Cond.fieldLink RX9 32 "SampleTrackerModel" "places" "[I", Cond.methodLink RX9 112 yX9_whole, Cond.instanceMethod yX9_whole, Cond.selects RX9 yX9_whole yX9_whole, Cond.code yX9_whole cX9_whole 4 (some .int), Cond.methodLink RX9 88 yX9_take, Cond.static yX9_take, Cond.code yX9_take cX9_take 6 (some .long), Cond.methodLink RX9 122 yX9_apply, Cond.instanceMethod yX9_apply, Cond.selects RX9 yX9_apply yX9_apply]
def wsX9_register_r5 : List Cond := [Cond.code yX9_apply cX9_apply 4 none, Cond.methodLink RX9 126 yX9_comes, Cond.instanceMethod yX9_comes, Cond.selects RX9 yX9_comes yX9_comes, Cond.code yX9_comes cX9_comes 6 none, Cond.fieldLink RX9 13 "SampleTrackerModel" "parent" "[I"]
def wsX9_register : List Cond := .code yX9_register cX9_register 4 (some .int) :: ((wsX9_register_r1 ++ (wsX9_register_r2 ++ (wsX9_register_r3 ++ (wsX9_register_r4 ++ wsX9_register_r5)))) ++ wsX90)
def wsX9_aliquot_r1 : List Cond := [Cond.fieldLink RX9 77 "SampleTrackerModel" "isDown" "Z", Cond.fieldLink RX9 24 "SampleTrackerModel" "volume" "[J", Cond.fieldLink RX9 115 "SampleTrackerModel" "samples" "I", Cond.methodLink RX9 165 yX9_isLive, Cond.instanceMethod yX9_isLive, Cond.selects RX9 yX9_isLive yX9_isLive, Cond.initialized RX9, Cond.code yX9_isLive cX9_isLive 2 (some .boolean), Cond.fieldLink RX9 20 "SampleTrackerModel" "live" "[Z", Cond.methodLink RX9 137 yX9_isWell, Cond.static yX9_isWell, Cond.code yX9_isWell cX9_isWell 1 (some .boolean), Cond.methodLink RX9 140 yX9_liveIn, Cond.instanceMethod yX9_liveIn, Cond.selects RX9 yX9_liveIn yX9_liveIn, Cond.code yX9_liveIn cX9_liveIn 3 (some .int), Cond.fieldLink RX9 17 "SampleTrackerModel" "well" "[I", Cond.methodLink RX9 151 yX9_hasRoom, Cond.instanceMethod yX9_hasRoom, Cond.selects RX9 yX9_hasRoom yX9_hasRoom, Cond.code yX9_hasRoom cX9_hasRoom 2 (some .boolean), Cond.fieldLink RX9 103 "SampleTrackerModel" "end" "I", Cond.fieldLink RX9 35 "SampleTrackerModel" "bytes" "I", Cond.methodLink RX9 67 yX9_lengthOf]
def wsX9_aliquot_r2 : List Cond := [Cond.static yX9_lengthOf, Cond.code yX9_lengthOf cX9_lengthOf 1 (some .int), Cond.methodLink RX9 154 yX9_begin, Cond.instanceMethod yX9_begin, Cond.selects RX9 yX9_begin yX9_begin, Cond.code yX9_begin cX9_begin 2 none, Cond.fieldLink RX9 43 "SampleTrackerModel" "size" "I", Cond.methodLink RX9 63 yX9_u2, Cond.instanceMethod yX9_u2, Cond.selects RX9 yX9_u2 yX9_u2, Cond.code yX9_u2 cX9_u2 2 none, Cond.methodLink RX9 54 yX9_u1, Cond.instanceMethod yX9_u1, Cond.selects RX9 yX9_u1 yX9_u1, Cond.code yX9_u1 cX9_u1 2 none, Cond.fieldLink RX9 28 "SampleTrackerModel" "row" "[B", Cond.methodLink RX9 157 yX9_u8, Cond.instanceMethod yX9_u8, Cond.selects RX9 yX9_u8 yX9_u8, Cond.code yX9_u8 cX9_u8 3 none, Cond.methodLink RX9 46 yX9_u4, Cond.instanceMethod yX9_u4, Cond.selects RX9 yX9_u4 yX9_u4, Cond.code yX9_u4 cX9_u4 2 none]
def wsX9_aliquot_r3 : List Cond := [Cond.methodLink RX9 161 yX9_acts, Cond.instanceMethod yX9_acts, Cond.selects RX9 yX9_acts yX9_acts, Cond.code yX9_acts cX9_acts 1 (some .boolean), Cond.fieldLink RX9 100 "SampleTrackerModel" "use" "I", Cond.methodLink RX9 130 yX9_checked, Cond.instanceMethod yX9_checked, Cond.selects RX9 yX9_checked yX9_checked, Cond.code yX9_checked cX9_checked 1 none, Cond.methodLink RX9 50 yX9_crc, Cond.static yX9_crc, Cond.code yX9_crc cX9_crc 6 (some .int), Cond.constant RX9 66 (-306674912), Cond.methodLink RX9 133 yX9_writeRow, Cond.instanceMethod yX9_writeRow, Cond.selects RX9 yX9_writeRow yX9_writeRow, Cond.code yX9_writeRow cX9_writeRow 4 (some .boolean), Cond.methodLink RX9 84 yX9_write, Cond.instanceMethod yX9_write, Cond.selects RX9 yX9_write yX9_write, Cond.code yX9_write cX9_write 4 (some .boolean), Cond.fieldLink RX9 9 "SampleTrackerModel" "left" "I", Cond.fieldLink RX9 40 "SampleTrackerModel" "bank" "[[B", Cond.fieldLink RX9 74 "SampleTrackerModel" "written" "I"]
def wsX9_aliquot_r4 : List Cond := [Cond.methodLink RX9 71 yX9_fails, Cond.instanceMethod yX9_fails, Cond.selects RX9 yX9_fails yX9_fails, Cond.code yX9_fails cX9_fails 1 none, Cond.fieldLink RX9 81 "SampleTrackerModel" "failures" "I", Cond.methodLink RX9 57 yX9_reads, Cond.instanceMethod yX9_reads, Cond.selects RX9 yX9_reads yX9_reads, Cond.code yX9_reads cX9_reads 6 none, Cond.fieldLink RX9 106 "SampleTrackerModel" "records" "I", Cond.fieldLink RX9 109 "SampleTrackerModel" "undoable" "I", Cond.fieldLink RX9 32 "SampleTrackerModel" "places" "[I", Cond.fieldLink RX9 118 "SampleTrackerModel" "lost" "J", Cond.methodLink RX9 112 yX9_whole, Cond.instanceMethod yX9_whole, Cond.selects RX9 yX9_whole yX9_whole, Cond.code yX9_whole cX9_whole 4 (some .int), Cond.methodLink RX9 88 yX9_take, Cond.static yX9_take, Cond.code yX9_take cX9_take 6 (some .long), Cond.methodLink RX9 122 yX9_apply, Cond.instanceMethod yX9_apply, Cond.selects RX9 yX9_apply yX9_apply, Cond.code yX9_apply cX9_apply 4 none]
def wsX9_aliquot_r5 : List Cond := [Cond.methodLink RX9 126 yX9_comes, Cond.instanceMethod yX9_comes, Cond.selects RX9 yX9_comes yX9_comes, Cond.code yX9_comes cX9_comes 6 none, Cond.fieldLink RX9 13 "SampleTrackerModel" "parent" "[I"]
def wsX9_aliquot : List Cond := .code yX9_aliquot cX9_aliquot 5 (some .int) :: ((wsX9_aliquot_r1 ++ (wsX9_aliquot_r2 ++ (wsX9_aliquot_r3 ++ (wsX9_aliquot_r4 ++ wsX9_aliquot_r5)))) ++ wsX90)
def wsX9_move_r1 : List Cond := [Cond.fieldLink RX9 77 "SampleTrackerModel" "isDown" "Z", Cond.methodLink RX9 165 yX9_isLive, Cond.instanceMethod yX9_isLive, Cond.selects RX9 yX9_isLive yX9_isLive, Cond.initialized RX9, Cond.code yX9_isLive cX9_isLive 2 (some .boolean), Cond.fieldLink RX9 115 "SampleTrackerModel" "samples" "I", Cond.fieldLink RX9 20 "SampleTrackerModel" "live" "[Z", Cond.methodLink RX9 137 yX9_isWell, Cond.static yX9_isWell, Cond.code yX9_isWell cX9_isWell 1 (some .boolean), Cond.methodLink RX9 140 yX9_liveIn, Cond.instanceMethod yX9_liveIn, Cond.selects RX9 yX9_liveIn yX9_liveIn, Cond.code yX9_liveIn cX9_liveIn 3 (some .int), Cond.fieldLink RX9 17 "SampleTrackerModel" "well" "[I", Cond.methodLink RX9 151 yX9_hasRoom, Cond.instanceMethod yX9_hasRoom, Cond.selects RX9 yX9_hasRoom yX9_hasRoom, Cond.code yX9_hasRoom cX9_hasRoom 2 (some .boolean), Cond.fieldLink RX9 103 "SampleTrackerModel" "end" "I", Cond.fieldLink RX9 35 "SampleTrackerModel" "bytes" "I", Cond.methodLink RX9 67 yX9_lengthOf, Cond.static yX9_lengthOf]
def wsX9_move_r2 : List Cond := [Cond.code yX9_lengthOf cX9_lengthOf 1 (some .int), Cond.methodLink RX9 154 yX9_begin, Cond.instanceMethod yX9_begin, Cond.selects RX9 yX9_begin yX9_begin, Cond.code yX9_begin cX9_begin 2 none, Cond.fieldLink RX9 43 "SampleTrackerModel" "size" "I", Cond.methodLink RX9 63 yX9_u2, Cond.instanceMethod yX9_u2, Cond.selects RX9 yX9_u2 yX9_u2, Cond.code yX9_u2 cX9_u2 2 none, Cond.methodLink RX9 54 yX9_u1, Cond.instanceMethod yX9_u1, Cond.selects RX9 yX9_u1 yX9_u1, Cond.code yX9_u1 cX9_u1 2 none, Cond.fieldLink RX9 28 "SampleTrackerModel" "row" "[B", Cond.methodLink RX9 161 yX9_acts, Cond.instanceMethod yX9_acts, Cond.selects RX9 yX9_acts yX9_acts, Cond.code yX9_acts cX9_acts 1 (some .boolean), Cond.fieldLink RX9 100 "SampleTrackerModel" "use" "I", Cond.methodLink RX9 130 yX9_checked, Cond.instanceMethod yX9_checked, Cond.selects RX9 yX9_checked yX9_checked, Cond.code yX9_checked cX9_checked 1 none]
def wsX9_move_r3 : List Cond := [Cond.methodLink RX9 50 yX9_crc, Cond.static yX9_crc, Cond.code yX9_crc cX9_crc 6 (some .int), Cond.constant RX9 66 (-306674912), Cond.methodLink RX9 46 yX9_u4, Cond.instanceMethod yX9_u4, Cond.selects RX9 yX9_u4 yX9_u4, Cond.code yX9_u4 cX9_u4 2 none, Cond.methodLink RX9 133 yX9_writeRow, Cond.instanceMethod yX9_writeRow, Cond.selects RX9 yX9_writeRow yX9_writeRow, Cond.code yX9_writeRow cX9_writeRow 4 (some .boolean), Cond.methodLink RX9 84 yX9_write, Cond.instanceMethod yX9_write, Cond.selects RX9 yX9_write yX9_write, Cond.code yX9_write cX9_write 4 (some .boolean), Cond.fieldLink RX9 9 "SampleTrackerModel" "left" "I", Cond.fieldLink RX9 40 "SampleTrackerModel" "bank" "[[B", Cond.fieldLink RX9 74 "SampleTrackerModel" "written" "I", Cond.methodLink RX9 71 yX9_fails, Cond.instanceMethod yX9_fails, Cond.selects RX9 yX9_fails yX9_fails, Cond.code yX9_fails cX9_fails 1 none, Cond.fieldLink RX9 81 "SampleTrackerModel" "failures" "I"]
def wsX9_move_r4 : List Cond := [Cond.methodLink RX9 57 yX9_reads, Cond.instanceMethod yX9_reads, Cond.selects RX9 yX9_reads yX9_reads, Cond.code yX9_reads cX9_reads 6 none, Cond.fieldLink RX9 106 "SampleTrackerModel" "records" "I", Cond.fieldLink RX9 109 "SampleTrackerModel" "undoable" "I", Cond.fieldLink RX9 32 "SampleTrackerModel" "places" "[I", Cond.fieldLink RX9 118 "SampleTrackerModel" "lost" "J", Cond.methodLink RX9 112 yX9_whole, Cond.instanceMethod yX9_whole, Cond.selects RX9 yX9_whole yX9_whole, Cond.code yX9_whole cX9_whole 4 (some .int), Cond.methodLink RX9 88 yX9_take, Cond.static yX9_take, Cond.code yX9_take cX9_take 6 (some .long), Cond.methodLink RX9 122 yX9_apply, Cond.instanceMethod yX9_apply, Cond.selects RX9 yX9_apply yX9_apply, Cond.code yX9_apply cX9_apply 4 none, Cond.fieldLink RX9 24 "SampleTrackerModel" "volume" "[J", Cond.methodLink RX9 126 yX9_comes, Cond.instanceMethod yX9_comes, Cond.selects RX9 yX9_comes yX9_comes, Cond.code yX9_comes cX9_comes 6 none]
def wsX9_move_r5 : List Cond := [Cond.fieldLink RX9 13 "SampleTrackerModel" "parent" "[I"]
def wsX9_move : List Cond := .code yX9_move cX9_move 3 (some .int) :: ((wsX9_move_r1 ++ (wsX9_move_r2 ++ (wsX9_move_r3 ++ (wsX9_move_r4 ++ wsX9_move_r5)))) ++ wsX90)
def wsX9_discard_r1 : List Cond := [Cond.fieldLink RX9 77 "SampleTrackerModel" "isDown" "Z", Cond.methodLink RX9 165 yX9_isLive, Cond.instanceMethod yX9_isLive, Cond.selects RX9 yX9_isLive yX9_isLive, Cond.initialized RX9, Cond.code yX9_isLive cX9_isLive 2 (some .boolean), Cond.fieldLink RX9 115 "SampleTrackerModel" "samples" "I", Cond.fieldLink RX9 20 "SampleTrackerModel" "live" "[Z", Cond.methodLink RX9 151 yX9_hasRoom, Cond.instanceMethod yX9_hasRoom, Cond.selects RX9 yX9_hasRoom yX9_hasRoom, Cond.code yX9_hasRoom cX9_hasRoom 2 (some .boolean), Cond.fieldLink RX9 103 "SampleTrackerModel" "end" "I", Cond.fieldLink RX9 35 "SampleTrackerModel" "bytes" "I", Cond.methodLink RX9 67 yX9_lengthOf, Cond.static yX9_lengthOf, Cond.code yX9_lengthOf cX9_lengthOf 1 (some .int), Cond.methodLink RX9 154 yX9_begin, Cond.instanceMethod yX9_begin, Cond.selects RX9 yX9_begin yX9_begin, Cond.code yX9_begin cX9_begin 2 none, Cond.fieldLink RX9 43 "SampleTrackerModel" "size" "I", Cond.methodLink RX9 63 yX9_u2, Cond.instanceMethod yX9_u2]
def wsX9_discard_r2 : List Cond := [Cond.selects RX9 yX9_u2 yX9_u2, Cond.code yX9_u2 cX9_u2 2 none, Cond.methodLink RX9 54 yX9_u1, Cond.instanceMethod yX9_u1, Cond.selects RX9 yX9_u1 yX9_u1, Cond.code yX9_u1 cX9_u1 2 none, Cond.fieldLink RX9 28 "SampleTrackerModel" "row" "[B", Cond.methodLink RX9 161 yX9_acts, Cond.instanceMethod yX9_acts, Cond.selects RX9 yX9_acts yX9_acts, Cond.code yX9_acts cX9_acts 1 (some .boolean), Cond.fieldLink RX9 100 "SampleTrackerModel" "use" "I", Cond.methodLink RX9 130 yX9_checked, Cond.instanceMethod yX9_checked, Cond.selects RX9 yX9_checked yX9_checked, Cond.code yX9_checked cX9_checked 1 none, Cond.methodLink RX9 50 yX9_crc, Cond.static yX9_crc, Cond.code yX9_crc cX9_crc 6 (some .int), Cond.constant RX9 66 (-306674912), Cond.methodLink RX9 46 yX9_u4, Cond.instanceMethod yX9_u4, Cond.selects RX9 yX9_u4 yX9_u4, Cond.code yX9_u4 cX9_u4 2 none]
def wsX9_discard_r3 : List Cond := [Cond.methodLink RX9 133 yX9_writeRow, Cond.instanceMethod yX9_writeRow, Cond.selects RX9 yX9_writeRow yX9_writeRow, Cond.code yX9_writeRow cX9_writeRow 4 (some .boolean), Cond.methodLink RX9 84 yX9_write, Cond.instanceMethod yX9_write, Cond.selects RX9 yX9_write yX9_write, Cond.code yX9_write cX9_write 4 (some .boolean), Cond.fieldLink RX9 9 "SampleTrackerModel" "left" "I", Cond.fieldLink RX9 40 "SampleTrackerModel" "bank" "[[B", Cond.fieldLink RX9 74 "SampleTrackerModel" "written" "I", Cond.methodLink RX9 71 yX9_fails, Cond.instanceMethod yX9_fails, Cond.selects RX9 yX9_fails yX9_fails, Cond.code yX9_fails cX9_fails 1 none, Cond.fieldLink RX9 81 "SampleTrackerModel" "failures" "I", Cond.methodLink RX9 57 yX9_reads, Cond.instanceMethod yX9_reads, Cond.selects RX9 yX9_reads yX9_reads, Cond.code yX9_reads cX9_reads 6 none, Cond.fieldLink RX9 106 "SampleTrackerModel" "records" "I", Cond.fieldLink RX9 109 "SampleTrackerModel" "undoable" "I", Cond.fieldLink RX9 32 "SampleTrackerModel" "places" "[I", Cond.fieldLink RX9 118 "SampleTrackerModel" "lost" "J"]
def wsX9_discard_r4 : List Cond := [Cond.methodLink RX9 112 yX9_whole, Cond.instanceMethod yX9_whole, Cond.selects RX9 yX9_whole yX9_whole, Cond.code yX9_whole cX9_whole 4 (some .int), Cond.methodLink RX9 88 yX9_take, Cond.static yX9_take, Cond.code yX9_take cX9_take 6 (some .long), Cond.methodLink RX9 122 yX9_apply, Cond.instanceMethod yX9_apply, Cond.selects RX9 yX9_apply yX9_apply, Cond.code yX9_apply cX9_apply 4 none, Cond.fieldLink RX9 24 "SampleTrackerModel" "volume" "[J", Cond.fieldLink RX9 17 "SampleTrackerModel" "well" "[I", Cond.methodLink RX9 126 yX9_comes, Cond.instanceMethod yX9_comes, Cond.selects RX9 yX9_comes yX9_comes, Cond.code yX9_comes cX9_comes 6 none, Cond.fieldLink RX9 13 "SampleTrackerModel" "parent" "[I"]
def wsX9_discard : List Cond := .code yX9_discard cX9_discard 2 (some .int) :: ((wsX9_discard_r1 ++ (wsX9_discard_r2 ++ (wsX9_discard_r3 ++ wsX9_discard_r4))) ++ wsX90)
def wsX9_undo_r1 : List Cond := [Cond.fieldLink RX9 77 "SampleTrackerModel" "isDown" "Z", Cond.fieldLink RX9 109 "SampleTrackerModel" "undoable" "I", Cond.methodLink RX9 151 yX9_hasRoom, Cond.instanceMethod yX9_hasRoom, Cond.selects RX9 yX9_hasRoom yX9_hasRoom, Cond.initialized RX9, Cond.code yX9_hasRoom cX9_hasRoom 2 (some .boolean), Cond.fieldLink RX9 103 "SampleTrackerModel" "end" "I", Cond.fieldLink RX9 35 "SampleTrackerModel" "bytes" "I", Cond.methodLink RX9 67 yX9_lengthOf, Cond.static yX9_lengthOf, Cond.code yX9_lengthOf cX9_lengthOf 1 (some .int), Cond.methodLink RX9 154 yX9_begin, Cond.instanceMethod yX9_begin, Cond.selects RX9 yX9_begin yX9_begin, Cond.code yX9_begin cX9_begin 2 none, Cond.fieldLink RX9 43 "SampleTrackerModel" "size" "I", Cond.methodLink RX9 63 yX9_u2, Cond.instanceMethod yX9_u2, Cond.selects RX9 yX9_u2 yX9_u2, Cond.code yX9_u2 cX9_u2 2 none, Cond.methodLink RX9 54 yX9_u1, Cond.instanceMethod yX9_u1, Cond.selects RX9 yX9_u1 yX9_u1]
def wsX9_undo_r2 : List Cond := [Cond.code yX9_u1 cX9_u1 2 none, Cond.fieldLink RX9 28 "SampleTrackerModel" "row" "[B", Cond.methodLink RX9 161 yX9_acts, Cond.instanceMethod yX9_acts, Cond.selects RX9 yX9_acts yX9_acts, Cond.code yX9_acts cX9_acts 1 (some .boolean), Cond.fieldLink RX9 100 "SampleTrackerModel" "use" "I", Cond.methodLink RX9 130 yX9_checked, Cond.instanceMethod yX9_checked, Cond.selects RX9 yX9_checked yX9_checked, Cond.code yX9_checked cX9_checked 1 none, Cond.methodLink RX9 50 yX9_crc, Cond.static yX9_crc, Cond.code yX9_crc cX9_crc 6 (some .int), Cond.constant RX9 66 (-306674912), Cond.methodLink RX9 46 yX9_u4, Cond.instanceMethod yX9_u4, Cond.selects RX9 yX9_u4 yX9_u4, Cond.code yX9_u4 cX9_u4 2 none, Cond.methodLink RX9 133 yX9_writeRow, Cond.instanceMethod yX9_writeRow, Cond.selects RX9 yX9_writeRow yX9_writeRow, Cond.code yX9_writeRow cX9_writeRow 4 (some .boolean), Cond.methodLink RX9 84 yX9_write]
def wsX9_undo_r3 : List Cond := [Cond.instanceMethod yX9_write, Cond.selects RX9 yX9_write yX9_write, Cond.code yX9_write cX9_write 4 (some .boolean), Cond.fieldLink RX9 9 "SampleTrackerModel" "left" "I", Cond.fieldLink RX9 40 "SampleTrackerModel" "bank" "[[B", Cond.fieldLink RX9 74 "SampleTrackerModel" "written" "I", Cond.methodLink RX9 71 yX9_fails, Cond.instanceMethod yX9_fails, Cond.selects RX9 yX9_fails yX9_fails, Cond.code yX9_fails cX9_fails 1 none, Cond.fieldLink RX9 81 "SampleTrackerModel" "failures" "I", Cond.methodLink RX9 57 yX9_reads, Cond.instanceMethod yX9_reads, Cond.selects RX9 yX9_reads yX9_reads, Cond.code yX9_reads cX9_reads 6 none, Cond.fieldLink RX9 106 "SampleTrackerModel" "records" "I", Cond.fieldLink RX9 32 "SampleTrackerModel" "places" "[I", Cond.fieldLink RX9 115 "SampleTrackerModel" "samples" "I", Cond.fieldLink RX9 118 "SampleTrackerModel" "lost" "J", Cond.methodLink RX9 112 yX9_whole, Cond.instanceMethod yX9_whole, Cond.selects RX9 yX9_whole yX9_whole, Cond.code yX9_whole cX9_whole 4 (some .int), Cond.methodLink RX9 88 yX9_take]
def wsX9_undo_r4 : List Cond := [Cond.static yX9_take, Cond.code yX9_take cX9_take 6 (some .long), Cond.methodLink RX9 122 yX9_apply, Cond.instanceMethod yX9_apply, Cond.selects RX9 yX9_apply yX9_apply, Cond.code yX9_apply cX9_apply 4 none, Cond.fieldLink RX9 24 "SampleTrackerModel" "volume" "[J", Cond.fieldLink RX9 17 "SampleTrackerModel" "well" "[I", Cond.fieldLink RX9 20 "SampleTrackerModel" "live" "[Z", Cond.methodLink RX9 126 yX9_comes, Cond.instanceMethod yX9_comes, Cond.selects RX9 yX9_comes yX9_comes, Cond.code yX9_comes cX9_comes 6 none, Cond.fieldLink RX9 13 "SampleTrackerModel" "parent" "[I"]
def wsX9_undo : List Cond := .code yX9_undo cX9_undo 1 (some .int) :: ((wsX9_undo_r1 ++ (wsX9_undo_r2 ++ (wsX9_undo_r3 ++ wsX9_undo_r4))) ++ wsX90)
def wsX9_compact_r1 : List Cond := [Cond.fieldLink RX9 77 "SampleTrackerModel" "isDown" "Z", Cond.fieldLink RX9 100 "SampleTrackerModel" "use" "I", Cond.fieldLink RX9 115 "SampleTrackerModel" "samples" "I", Cond.fieldLink RX9 35 "SampleTrackerModel" "bytes" "I", Cond.fieldLink RX9 118 "SampleTrackerModel" "lost" "J", Cond.fieldLink RX9 43 "SampleTrackerModel" "size" "I", Cond.fieldLink RX9 13 "SampleTrackerModel" "parent" "[I", Cond.fieldLink RX9 20 "SampleTrackerModel" "live" "[Z", Cond.fieldLink RX9 17 "SampleTrackerModel" "well" "[I", Cond.fieldLink RX9 24 "SampleTrackerModel" "volume" "[J", Cond.fieldLink RX9 28 "SampleTrackerModel" "row" "[B", Cond.methodLink RX9 67 yX9_lengthOf, Cond.static yX9_lengthOf, Cond.initialized RX9, Cond.code yX9_lengthOf cX9_lengthOf 1 (some .int), Cond.methodLink RX9 84 yX9_write, Cond.instanceMethod yX9_write, Cond.selects RX9 yX9_write yX9_write, Cond.code yX9_write cX9_write 4 (some .boolean), Cond.fieldLink RX9 9 "SampleTrackerModel" "left" "I", Cond.fieldLink RX9 40 "SampleTrackerModel" "bank" "[[B", Cond.fieldLink RX9 74 "SampleTrackerModel" "written" "I", Cond.methodLink RX9 71 yX9_fails, Cond.instanceMethod yX9_fails]
def wsX9_compact_r2 : List Cond := [Cond.selects RX9 yX9_fails yX9_fails, Cond.code yX9_fails cX9_fails 1 none, Cond.fieldLink RX9 81 "SampleTrackerModel" "failures" "I", Cond.methodLink RX9 154 yX9_begin, Cond.instanceMethod yX9_begin, Cond.selects RX9 yX9_begin yX9_begin, Cond.code yX9_begin cX9_begin 2 none, Cond.methodLink RX9 63 yX9_u2, Cond.instanceMethod yX9_u2, Cond.selects RX9 yX9_u2 yX9_u2, Cond.code yX9_u2 cX9_u2 2 none, Cond.methodLink RX9 54 yX9_u1, Cond.instanceMethod yX9_u1, Cond.selects RX9 yX9_u1 yX9_u1, Cond.code yX9_u1 cX9_u1 2 none, Cond.methodLink RX9 157 yX9_u8, Cond.instanceMethod yX9_u8, Cond.selects RX9 yX9_u8 yX9_u8, Cond.code yX9_u8 cX9_u8 3 none, Cond.methodLink RX9 46 yX9_u4, Cond.instanceMethod yX9_u4, Cond.selects RX9 yX9_u4 yX9_u4, Cond.code yX9_u4 cX9_u4 2 none, Cond.methodLink RX9 130 yX9_checked]
def wsX9_compact_r3 : List Cond := [Cond.instanceMethod yX9_checked, Cond.selects RX9 yX9_checked yX9_checked, Cond.code yX9_checked cX9_checked 1 none, Cond.methodLink RX9 50 yX9_crc, Cond.static yX9_crc, Cond.code yX9_crc cX9_crc 6 (some .int), Cond.constant RX9 66 (-306674912), Cond.methodLink RX9 133 yX9_writeRow, Cond.instanceMethod yX9_writeRow, Cond.selects RX9 yX9_writeRow yX9_writeRow, Cond.code yX9_writeRow cX9_writeRow 4 (some .boolean), Cond.methodLink RX9 96 yX9_generation, Cond.instanceMethod yX9_generation, Cond.selects RX9 yX9_generation yX9_generation, Cond.code yX9_generation cX9_generation 2 (some .long), Cond.methodLink RX9 88 yX9_take, Cond.static yX9_take, Cond.code yX9_take cX9_take 6 (some .long), Cond.methodLink RX9 57 yX9_reads, Cond.instanceMethod yX9_reads, Cond.selects RX9 yX9_reads yX9_reads, Cond.code yX9_reads cX9_reads 6 none, Cond.fieldLink RX9 106 "SampleTrackerModel" "records" "I", Cond.fieldLink RX9 109 "SampleTrackerModel" "undoable" "I"]
def wsX9_compact_r4 : List Cond := [Cond.fieldLink RX9 32 "SampleTrackerModel" "places" "[I", Cond.fieldLink RX9 103 "SampleTrackerModel" "end" "I", Cond.methodLink RX9 112 yX9_whole, Cond.instanceMethod yX9_whole, Cond.selects RX9 yX9_whole yX9_whole, Cond.code yX9_whole cX9_whole 4 (some .int), Cond.methodLink RX9 122 yX9_apply, Cond.instanceMethod yX9_apply, Cond.selects RX9 yX9_apply yX9_apply, Cond.code yX9_apply cX9_apply 4 none, Cond.methodLink RX9 126 yX9_comes, Cond.instanceMethod yX9_comes, Cond.selects RX9 yX9_comes yX9_comes, Cond.code yX9_comes cX9_comes 6 none]
def wsX9_compact : List Cond := .code yX9_compact cX9_compact 4 (some .int) :: ((wsX9_compact_r1 ++ (wsX9_compact_r2 ++ (wsX9_compact_r3 ++ wsX9_compact_r4))) ++ wsX90)
def wsX9_octet : List Cond := .code yX9_octet cX9_octet 3 (some .int) :: ([.fieldLink RX9 35 "SampleTrackerModel" "bytes" "I", .fieldLink RX9 40 "SampleTrackerModel" "bank" "[[B"] ++ wsX90)
def wsX9_isHere : List Cond := .code yX9_isHere cX9_isHere 2 (some .boolean) :: ([.fieldLink RX9 77 "SampleTrackerModel" "isDown" "Z", .fieldLink RX9 115 "SampleTrackerModel" "samples" "I"] ++ wsX90)
def wsX9_sample : List Cond := .code yX9_sample cX9_sample 6 (some .int) :: ([.fieldLink RX9 13 "SampleTrackerModel" "parent" "[I", .fieldLink RX9 20 "SampleTrackerModel" "live" "[Z", .fieldLink RX9 17 "SampleTrackerModel" "well" "[I", .fieldLink RX9 115 "SampleTrackerModel" "samples" "I", .methodLink RX9 168 yX9_isHere, .instanceMethod yX9_isHere, .selects RX9 yX9_isHere yX9_isHere, .initialized RX9, .code yX9_isHere cX9_isHere 2 (some .boolean), .fieldLink RX9 77 "SampleTrackerModel" "isDown" "Z"] ++ wsX90)
def wsX9_volume : List Cond := .code yX9_volume cX9_volume 2 (some .long) :: ([.fieldLink RX9 24 "SampleTrackerModel" "volume" "[J", .constantLong RX9 171 (-1), .methodLink RX9 168 yX9_isHere, .instanceMethod yX9_isHere, .selects RX9 yX9_isHere yX9_isHere, .initialized RX9, .code yX9_isHere cX9_isHere 2 (some .boolean), .fieldLink RX9 77 "SampleTrackerModel" "isDown" "Z", .fieldLink RX9 115 "SampleTrackerModel" "samples" "I"] ++ wsX90)
def wsX9_well : List Cond := .code yX9_well cX9_well 2 (some .int) :: ([.fieldLink RX9 77 "SampleTrackerModel" "isDown" "Z", .methodLink RX9 137 yX9_isWell, .static yX9_isWell, .initialized RX9, .code yX9_isWell cX9_isWell 1 (some .boolean), .methodLink RX9 140 yX9_liveIn, .instanceMethod yX9_liveIn, .selects RX9 yX9_liveIn yX9_liveIn, .code yX9_liveIn cX9_liveIn 3 (some .int), .fieldLink RX9 115 "SampleTrackerModel" "samples" "I", .fieldLink RX9 20 "SampleTrackerModel" "live" "[Z", .fieldLink RX9 17 "SampleTrackerModel" "well" "[I"] ++ wsX90)
def wsX9_total : List Cond := .code yX9_total cX9_total 7 (some .long) :: ([.fieldLink RX9 77 "SampleTrackerModel" "isDown" "Z", .constantLong RX9 171 (-1), .fieldLink RX9 118 "SampleTrackerModel" "lost" "J", .fieldLink RX9 115 "SampleTrackerModel" "samples" "I", .fieldLink RX9 13 "SampleTrackerModel" "parent" "[I", .fieldLink RX9 24 "SampleTrackerModel" "volume" "[J", .methodLink RX9 143 yX9_liveVolume, .instanceMethod yX9_liveVolume, .selects RX9 yX9_liveVolume yX9_liveVolume, .initialized RX9, .code yX9_liveVolume cX9_liveVolume 4 (some .long), .methodLink RX9 168 yX9_isHere, .instanceMethod yX9_isHere, .selects RX9 yX9_isHere yX9_isHere, .code yX9_isHere cX9_isHere 2 (some .boolean)] ++ wsX90)
def wsX9_count : List Cond := .code yX9_count cX9_count 4 (some .int) :: ([.fieldLink RX9 77 "SampleTrackerModel" "isDown" "Z", .fieldLink RX9 35 "SampleTrackerModel" "bytes" "I", .fieldLink RX9 74 "SampleTrackerModel" "written" "I", .fieldLink RX9 81 "SampleTrackerModel" "failures" "I", .fieldLink RX9 100 "SampleTrackerModel" "use" "I", .fieldLink RX9 103 "SampleTrackerModel" "end" "I", .fieldLink RX9 115 "SampleTrackerModel" "samples" "I", .fieldLink RX9 20 "SampleTrackerModel" "live" "[Z", .fieldLink RX9 109 "SampleTrackerModel" "undoable" "I", .methodLink RX9 96 yX9_generation, .instanceMethod yX9_generation, .selects RX9 yX9_generation yX9_generation, .initialized RX9, .code yX9_generation cX9_generation 2 (some .long), .fieldLink RX9 40 "SampleTrackerModel" "bank" "[[B", .methodLink RX9 88 yX9_take, .static yX9_take, .code yX9_take cX9_take 6 (some .long)] ++ wsX90)
def wsJ9_max_7cf53 : List Cond := .code yJ9_max_7cf53 cJ9_max_7cf53 2 (some .int) :: ([])
def wsJ9_min_7cf53 : List Cond := .code yJ9_min_7cf53 cJ9_min_7cf53 2 (some .int) :: ([])
def wsL_cell : List Cond := .code yL_cell cL_cell 2 (some .int) :: ([])
def wsL_law_r1 : List Cond := [Cond.classLink RL 7 RX8, Cond.instantiable RX8 4, Cond.initialized RX8, Cond.classLink RL 18 RX9, Cond.instantiable RX9 20, Cond.initialized RX9, Cond.constantLong RL 21 (4294967295), Cond.methodLink RL 9 yL_cell, Cond.static yL_cell, Cond.initialized RL, Cond.code yL_cell cL_cell 2 (some .int), Cond.methodLink RL 15 yX8_init, Cond.instanceMethod yX8_init, Cond.code yX8_init cX8_init 2 none, Cond.methodLink RX8 3 objectInit, Cond.instanceMethod objectInit, Cond.code objectInit ⟨#[0xb1]⟩ 1 none, Cond.classLink RX8 9 RX6, Cond.instantiable RX6 5, Cond.initialized RX6, Cond.fieldLink RX8 12 "SampleTracker" "power" "LSampleTracker$Power;", Cond.classLink RX8 16 RX3, Cond.instantiable RX3 6, Cond.initialized RX3]
def wsL_law_r2 : List Cond := [Cond.methodLink RX8 18 Lib.Math.min.name, Cond.static Lib.Math.min.name, Cond.initialized "java/lang/Math", Cond.code Lib.Math.min.name Lib.Math.min.code 2 (some .int), Cond.methodLink RX8 24 Lib.Math.max.name, Cond.static Lib.Math.max.name, Cond.code Lib.Math.max.name Lib.Math.max.code 2 (some .int), Cond.fieldLink RX8 30 "SampleTracker" "journal" "LSampleTracker$Journal;", Cond.classLink RX8 34 RX7, Cond.instantiable RX7 7, Cond.initialized RX7, Cond.fieldLink RX8 37 "SampleTracker" "table" "LSampleTracker$Table;", Cond.classLink RX8 41 RX2, Cond.instantiable RX2 4, Cond.initialized RX2, Cond.fieldLink RX8 44 "SampleTracker" "entry" "LSampleTracker$Entry;", Cond.instanceMethod yX6_init, Cond.code yX6_init cX6_init 1 none, Cond.methodLink RX6 1 objectInit, Cond.fieldLink RX6 7 "SampleTracker$Power" "up" "Z", Cond.fieldLink RX6 13 "SampleTracker$Power" "cutWaits" "Z", Cond.fieldLink RX6 16 "SampleTracker$Power" "bytesLeft" "I", Cond.fieldLink RX6 20 "SampleTracker$Power" "written" "I", Cond.fieldLink RX6 23 "SampleTracker$Power" "failed" "I"]
def wsL_law_r3 : List Cond := [Cond.methodLink RX8 27 yX3_init, Cond.instanceMethod yX3_init, Cond.code yX3_init cX3_init 4 none, Cond.methodLink RX3 3 objectInit, Cond.fieldLink RX3 9 "SampleTracker$Journal" "inUse" "I", Cond.fieldLink RX3 15 "SampleTracker$Journal" "end" "I", Cond.fieldLink RX3 18 "SampleTracker$Journal" "power" "LSampleTracker$Power;", Cond.classLink RX3 22 RX0, Cond.instantiable RX0 1, Cond.initialized RX0, Cond.fieldLink RX3 27 "SampleTracker$Journal" "first" "LSampleTracker$Bank;", Cond.fieldLink RX3 31 "SampleTracker$Journal" "second" "LSampleTracker$Bank;", Cond.classLink RX3 34 RX5, Cond.instantiable RX5 4, Cond.initialized RX5, Cond.fieldLink RX3 39 "SampleTracker$Journal" "pen" "LSampleTracker$Pen;", Cond.classLink RX3 43 RX6, Cond.methodLink RX3 24 yX0_init, Cond.instanceMethod yX0_init, Cond.code yX0_init cX0_init 2 none, Cond.methodLink RX0 3 objectInit, Cond.methodLink RX0 9 Lib.Math.max.name, Cond.arrayClass .byte, Cond.fieldLink RX0 15 "SampleTracker$Bank" "bytes" "[B"]
def wsL_law_r4 : List Cond := [Cond.methodLink RX3 36 yX5_init, Cond.instanceMethod yX5_init, Cond.code yX5_init cX5_init 3 none, Cond.methodLink RX5 3 objectInit, Cond.fieldLink RX5 9 "SampleTracker$Pen" "position" "I", Cond.fieldLink RX5 17 "SampleTracker$Pen" "crc" "I", Cond.fieldLink RX5 20 "SampleTracker$Pen" "power" "LSampleTracker$Power;", Cond.fieldLink RX5 24 "SampleTracker$Pen" "bank" "LSampleTracker$Bank;", Cond.methodLink RX3 46 yX5_writeHead, Cond.instanceMethod yX5_writeHead, Cond.selects RX5 yX5_writeHead yX5_writeHead, Cond.code yX5_writeHead cX5_writeHead 2 none, Cond.methodLink RX5 32 yX5_writeNumber, Cond.instanceMethod yX5_writeNumber, Cond.selects RX5 yX5_writeNumber yX5_writeNumber, Cond.code yX5_writeNumber cX5_writeNumber 6 none, Cond.methodLink RX5 69 yX1_step, Cond.static yX1_step, Cond.initialized RX1, Cond.code yX1_step cX1_step 3 (some .int), Cond.fieldLink RX1 7 "SampleTracker$Crc" "OF_HALF_BYTE" "[I", Cond.methodLink RX5 28 yX5_writeByte, Cond.instanceMethod yX5_writeByte, Cond.selects RX5 yX5_writeByte yX5_writeByte]
def wsL_law_r5 : List Cond := [Cond.code yX5_writeByte cX5_writeByte 2 none, Cond.methodLink RX5 73 yX6_letByteThrough, Cond.instanceMethod yX6_letByteThrough, Cond.selects RX6 yX6_letByteThrough yX6_letByteThrough, Cond.code yX6_letByteThrough cX6_letByteThrough 2 (some .boolean), Cond.methodLink RX5 78 yX0_put, Cond.instanceMethod yX0_put, Cond.selects RX0 yX0_put yX0_put, Cond.code yX0_put cX0_put 3 none, Cond.methodLink RX5 36 yX1_end, Cond.static yX1_end, Cond.code yX1_end cX1_end 1 (some .int), Cond.instanceMethod yX7_init, Cond.code yX7_init cX7_init 1 none, Cond.methodLink RX7 3 objectInit, Cond.arrayClass .int, Cond.fieldLink RX7 9 "SampleTracker$Table" "parents" "[I", Cond.fieldLink RX7 15 "SampleTracker$Table" "wells" "[I", Cond.arrayClass .long, Cond.fieldLink RX7 18 "SampleTracker$Table" "volumes" "[J", Cond.arrayClass .boolean, Cond.fieldLink RX7 22 "SampleTracker$Table" "inFamily" "[Z", Cond.classLink RX7 26 RX4, Cond.instantiable RX4 6]
def wsL_law_r6 : List Cond := [Cond.initialized RX4, Cond.fieldLink RX7 29 "SampleTracker$Table" "past" "LSampleTracker$Past;", Cond.fieldLink RX7 33 "SampleTracker$Table" "samples" "I", Cond.fieldLink RX7 37 "SampleTracker$Table" "lost" "J", Cond.instanceMethod yX4_init, Cond.code yX4_init cX4_init 1 none, Cond.methodLink RX4 3 objectInit, Cond.fieldLink RX4 9 "SampleTracker$Past" "samples" "[I", Cond.fieldLink RX4 15 "SampleTracker$Past" "lost" "[J", Cond.fieldLink RX4 19 "SampleTracker$Past" "touched" "[I", Cond.fieldLink RX4 22 "SampleTracker$Past" "wells" "[I", Cond.fieldLink RX4 25 "SampleTracker$Past" "volumes" "[J", Cond.fieldLink RX4 28 "SampleTracker$Past" "size" "I", Cond.instanceMethod yX2_init, Cond.code yX2_init cX2_init 1 none, Cond.methodLink RX2 3 objectInit, Cond.fieldLink RX2 9 "SampleTracker$Entry" "kind" "I", Cond.fieldLink RX2 15 "SampleTracker$Entry" "sample" "I", Cond.fieldLink RX2 18 "SampleTracker$Entry" "well" "I", Cond.fieldLink RX2 21 "SampleTracker$Entry" "volume" "J", Cond.methodLink RL 20 yX9_init, Cond.instanceMethod yX9_init, Cond.code yX9_init cX9_init 3 none, Cond.methodLink RX9 1 objectInit]
def wsL_law_r7 : List Cond := [Cond.fieldLink RX9 9 "SampleTrackerModel" "left" "I", Cond.fieldLink RX9 13 "SampleTrackerModel" "parent" "[I", Cond.fieldLink RX9 17 "SampleTrackerModel" "well" "[I", Cond.fieldLink RX9 20 "SampleTrackerModel" "live" "[Z", Cond.fieldLink RX9 24 "SampleTrackerModel" "volume" "[J", Cond.fieldLink RX9 28 "SampleTrackerModel" "row" "[B", Cond.fieldLink RX9 32 "SampleTrackerModel" "places" "[I", Cond.fieldLink RX9 35 "SampleTrackerModel" "bytes" "I", Cond.classLink RX9 38 "[[B", Cond.fieldLink RX9 40 "SampleTrackerModel" "bank" "[[B", Cond.fieldLink RX9 43 "SampleTrackerModel" "size" "I", Cond.methodLink RX9 46 yX9_u4, Cond.instanceMethod yX9_u4, Cond.selects RX9 yX9_u4 yX9_u4, Cond.code yX9_u4 cX9_u4 2 none, Cond.methodLink RX9 63 yX9_u2, Cond.instanceMethod yX9_u2, Cond.selects RX9 yX9_u2 yX9_u2, Cond.code yX9_u2 cX9_u2 2 none, Cond.methodLink RX9 54 yX9_u1, Cond.instanceMethod yX9_u1, Cond.selects RX9 yX9_u1 yX9_u1, Cond.code yX9_u1 cX9_u1 2 none, Cond.methodLink RX9 50 yX9_crc]
def wsL_law_r8 : List Cond := [Cond.static yX9_crc, Cond.code yX9_crc cX9_crc 6 (some .int), Cond.constant RX9 66 (-306674912), Cond.methodLink RX9 57 yX9_reads, Cond.instanceMethod yX9_reads, Cond.selects RX9 yX9_reads yX9_reads, Cond.code yX9_reads cX9_reads 6 none, Cond.fieldLink RX9 100 "SampleTrackerModel" "use" "I", Cond.fieldLink RX9 106 "SampleTrackerModel" "records" "I", Cond.fieldLink RX9 109 "SampleTrackerModel" "undoable" "I", Cond.fieldLink RX9 103 "SampleTrackerModel" "end" "I", Cond.fieldLink RX9 115 "SampleTrackerModel" "samples" "I", Cond.fieldLink RX9 118 "SampleTrackerModel" "lost" "J", Cond.methodLink RX9 112 yX9_whole, Cond.instanceMethod yX9_whole, Cond.selects RX9 yX9_whole yX9_whole, Cond.code yX9_whole cX9_whole 4 (some .int), Cond.methodLink RX9 88 yX9_take, Cond.static yX9_take, Cond.code yX9_take cX9_take 6 (some .long), Cond.methodLink RX9 122 yX9_apply, Cond.instanceMethod yX9_apply, Cond.selects RX9 yX9_apply yX9_apply, Cond.code yX9_apply cX9_apply 4 none]
def wsL_law_r9 : List Cond := [Cond.methodLink RX9 126 yX9_comes, Cond.instanceMethod yX9_comes, Cond.selects RX9 yX9_comes yX9_comes, Cond.code yX9_comes cX9_comes 6 none, Cond.methodLink RL 23 yX8_register, Cond.instanceMethod yX8_register, Cond.selects RX8 yX8_register yX8_register, Cond.code yX8_register cX8_register 5 (some .int), Cond.methodLink RX8 48 yX2_set, Cond.instanceMethod yX2_set, Cond.selects RX2 yX2_set yX2_set, Cond.code yX2_set cX2_set 6 none, Cond.methodLink RX8 52 yX7_volumeStillAllowed, Cond.instanceMethod yX7_volumeStillAllowed, Cond.selects RX7 yX7_volumeStillAllowed yX7_volumeStillAllowed, Cond.code yX7_volumeStillAllowed cX7_volumeStillAllowed 1 (some .long), Cond.constantLong RX7 69 (9223372036854775807), Cond.methodLink RX7 71 yX7_liveVolume, Cond.instanceMethod yX7_liveVolume, Cond.selects RX7 yX7_liveVolume yX7_liveVolume, Cond.code yX7_liveVolume cX7_liveVolume 4 (some .long), Cond.methodLink RX7 63 yX7_volumeOf, Cond.instanceMethod yX7_volumeOf, Cond.selects RX7 yX7_volumeOf yX7_volumeOf]
def wsL_law_r10 : List Cond := [Cond.code yX7_volumeOf cX7_volumeOf 2 (some .long), Cond.constantLong RX7 49 (-1), Cond.methodLink RX7 45 yX7_isSample, Cond.instanceMethod yX7_isSample, Cond.selects RX7 yX7_isSample yX7_isSample, Cond.code yX7_isSample cX7_isSample 2 (some .boolean), Cond.methodLink RX8 56 yX8_refusalOfNewSample, Cond.instanceMethod yX8_refusalOfNewSample, Cond.selects RX8 yX8_refusalOfNewSample yX8_refusalOfNewSample, Cond.code yX8_refusalOfNewSample cX8_refusalOfNewSample 5 (some .int), Cond.methodLink RX8 76 yX8_refusalOfWell, Cond.instanceMethod yX8_refusalOfWell, Cond.selects RX8 yX8_refusalOfWell yX8_refusalOfWell, Cond.code yX8_refusalOfWell cX8_refusalOfWell 2 (some .int), Cond.methodLink RX8 83 yX6_isUp, Cond.instanceMethod yX6_isUp, Cond.selects RX6 yX6_isUp yX6_isUp, Cond.code yX6_isUp cX6_isUp 1 (some .boolean), Cond.methodLink RX8 200 yX8_isWell, Cond.static yX8_isWell, Cond.code yX8_isWell cX8_isWell 1 (some .boolean), Cond.methodLink RX8 153 yX7_sampleIn, Cond.instanceMethod yX7_sampleIn, Cond.selects RX7 yX7_sampleIn yX7_sampleIn]
def wsL_law_r11 : List Cond := [Cond.code yX7_sampleIn cX7_sampleIn 3 (some .int), Cond.methodLink RX7 41 yX7_wellOf, Cond.instanceMethod yX7_wellOf, Cond.selects RX7 yX7_wellOf yX7_wellOf, Cond.code yX7_wellOf cX7_wellOf 2 (some .int), Cond.methodLink RX8 193 yX7_isFull, Cond.instanceMethod yX7_isFull, Cond.selects RX7 yX7_isFull yX7_isFull, Cond.code yX7_isFull cX7_isFull 1 (some .boolean), Cond.methodLink RX8 80 yX8_refusalOfRoom, Cond.instanceMethod yX8_refusalOfRoom, Cond.selects RX8 yX8_refusalOfRoom yX8_refusalOfRoom, Cond.code yX8_refusalOfRoom cX8_refusalOfRoom 1 (some .int), Cond.methodLink RX8 203 yX3_hasRoomFor, Cond.instanceMethod yX3_hasRoomFor, Cond.selects RX3 yX3_hasRoomFor yX3_hasRoomFor, Cond.code yX3_hasRoomFor cX3_hasRoomFor 2 (some .boolean), Cond.methodLink RX3 61 yX2_length, Cond.instanceMethod yX2_length, Cond.selects RX2 yX2_length yX2_length, Cond.code yX2_length cX2_length 1 (some .int), Cond.methodLink RX2 25 yX2_hasSample, Cond.instanceMethod yX2_hasSample, Cond.selects RX2 yX2_hasSample yX2_hasSample]
def wsL_law_r12 : List Cond := [Cond.code yX2_hasSample cX2_hasSample 1 (some .boolean), Cond.methodLink RX2 29 yX2_hasWell, Cond.instanceMethod yX2_hasWell, Cond.selects RX2 yX2_hasWell yX2_hasWell, Cond.code yX2_hasWell cX2_hasWell 1 (some .boolean), Cond.methodLink RX2 32 yX2_hasVolume, Cond.instanceMethod yX2_hasVolume, Cond.selects RX2 yX2_hasVolume yX2_hasVolume, Cond.code yX2_hasVolume cX2_hasVolume 1 (some .boolean), Cond.methodLink RX3 66 yX3_bankBytes, Cond.instanceMethod yX3_bankBytes, Cond.selects RX3 yX3_bankBytes yX3_bankBytes, Cond.code yX3_bankBytes cX3_bankBytes 1 (some .int), Cond.methodLink RX3 49 yX0_size, Cond.instanceMethod yX0_size, Cond.selects RX0 yX0_size yX0_size, Cond.code yX0_size cX0_size 1 (some .int), Cond.methodLink RX8 60 yX8_carryOut, Cond.instanceMethod yX8_carryOut, Cond.selects RX8 yX8_carryOut yX8_carryOut, Cond.code yX8_carryOut cX8_carryOut 2 (some .int), Cond.methodLink RX8 206 yX3_append, Cond.instanceMethod yX3_append, Cond.selects RX3 yX3_append yX3_append]
def wsL_law_r13 : List Cond := [Cond.code yX3_append cX3_append 2 (some .boolean), Cond.methodLink RX3 53 yX3_bank, Cond.instanceMethod yX3_bank, Cond.selects RX3 yX3_bank yX3_bank, Cond.code yX3_bank cX3_bank 2 (some (.object "SampleTracker$Bank")), Cond.methodLink RX3 69 yX5_goTo, Cond.instanceMethod yX5_goTo, Cond.selects RX5 yX5_goTo yX5_goTo, Cond.code yX5_goTo cX5_goTo 3 none, Cond.methodLink RX3 73 yX5_writeRecord, Cond.instanceMethod yX5_writeRecord, Cond.selects RX5 yX5_writeRecord yX5_writeRecord, Cond.code yX5_writeRecord cX5_writeRecord 2 none, Cond.methodLink RX5 40 yX2_length, Cond.methodLink RX5 49 yX2_hasSample, Cond.methodLink RX5 56 yX2_hasWell, Cond.methodLink RX5 62 yX2_hasVolume, Cond.methodLink RX3 77 yX6_isUp, Cond.methodLink RX3 81 yX5_position, Cond.instanceMethod yX5_position, Cond.selects RX5 yX5_position yX5_position, Cond.code yX5_position cX5_position 1 (some .int), Cond.methodLink RX8 117 yX7_apply, Cond.instanceMethod yX7_apply]
def wsL_law_r14 : List Cond := [Cond.selects RX7 yX7_apply yX7_apply, Cond.code yX7_apply cX7_apply 2 none, Cond.methodLink RX7 87 yX7_applyRegister, Cond.instanceMethod yX7_applyRegister, Cond.selects RX7 yX7_applyRegister yX7_applyRegister, Cond.code yX7_applyRegister cX7_applyRegister 2 none, Cond.methodLink RX7 109 yX7_remember, Cond.instanceMethod yX7_remember, Cond.selects RX7 yX7_remember yX7_remember, Cond.code yX7_remember cX7_remember 2 none, Cond.methodLink RX7 142 yX4_add, Cond.instanceMethod yX4_add, Cond.selects RX4 yX4_add yX4_add, Cond.code yX4_add cX4_add 8 none, Cond.methodLink RX7 116 yX7_addSample, Cond.instanceMethod yX7_addSample, Cond.selects RX7 yX7_addSample yX7_addSample, Cond.code yX7_addSample cX7_addSample 5 none, Cond.methodLink RX7 146 yX7_isFull, Cond.methodLink RX7 91 yX7_applyAliquot, Cond.instanceMethod yX7_applyAliquot, Cond.selects RX7 yX7_applyAliquot yX7_applyAliquot, Cond.code yX7_applyAliquot cX7_applyAliquot 2 none, Cond.methodLink RX7 94 yX7_applyMove]
def wsL_law_r15 : List Cond := [Cond.instanceMethod yX7_applyMove, Cond.selects RX7 yX7_applyMove yX7_applyMove, Cond.code yX7_applyMove cX7_applyMove 2 none, Cond.methodLink RX7 97 yX7_applyDiscard, Cond.instanceMethod yX7_applyDiscard, Cond.selects RX7 yX7_applyDiscard yX7_applyDiscard, Cond.code yX7_applyDiscard cX7_applyDiscard 2 none, Cond.methodLink RX7 100 yX7_applyUndo, Cond.instanceMethod yX7_applyUndo, Cond.selects RX7 yX7_applyUndo yX7_applyUndo, Cond.code yX7_applyUndo cX7_applyUndo 2 none, Cond.methodLink RX7 123 yX4_stepBack, Cond.instanceMethod yX4_stepBack, Cond.selects RX4 yX4_stepBack yX4_stepBack, Cond.code yX4_stepBack cX4_stepBack 1 (some .boolean), Cond.methodLink RX7 127 yX4_samplesBefore, Cond.instanceMethod yX4_samplesBefore, Cond.selects RX4 yX4_samplesBefore yX4_samplesBefore, Cond.code yX4_samplesBefore cX4_samplesBefore 1 (some .int), Cond.methodLink RX7 130 yX4_lostBefore, Cond.instanceMethod yX4_lostBefore, Cond.selects RX4 yX4_lostBefore yX4_lostBefore, Cond.code yX4_lostBefore cX4_lostBefore 1 (some .long), Cond.methodLink RX7 133 yX4_touched]
def wsL_law_r16 : List Cond := [Cond.instanceMethod yX4_touched, Cond.selects RX4 yX4_touched yX4_touched, Cond.code yX4_touched cX4_touched 1 (some .int), Cond.methodLink RX7 136 yX4_wellBefore, Cond.instanceMethod yX4_wellBefore, Cond.selects RX4 yX4_wellBefore yX4_wellBefore, Cond.code yX4_wellBefore cX4_wellBefore 1 (some .int), Cond.methodLink RX7 139 yX4_volumeBefore, Cond.instanceMethod yX4_volumeBefore, Cond.selects RX4 yX4_volumeBefore yX4_volumeBefore, Cond.code yX4_volumeBefore cX4_volumeBefore 1 (some .long), Cond.methodLink RX7 103 yX7_applyKept, Cond.instanceMethod yX7_applyKept, Cond.selects RX7 yX7_applyKept yX7_applyKept, Cond.code yX7_applyKept cX7_applyKept 2 none, Cond.methodLink RX8 64 yX7_sampleCount, Cond.instanceMethod yX7_sampleCount, Cond.selects RX7 yX7_sampleCount yX7_sampleCount, Cond.code yX7_sampleCount cX7_sampleCount 1 (some .int), Cond.methodLink RL 27 yX9_register, Cond.instanceMethod yX9_register, Cond.selects RX9 yX9_register yX9_register, Cond.code yX9_register cX9_register 4 (some .int), Cond.fieldLink RX9 77 "SampleTrackerModel" "isDown" "Z"]
def wsL_law_r17 : List Cond := [Cond.constantLong RX9 149 (9223372036854775807), Cond.methodLink RX9 137 yX9_isWell, Cond.static yX9_isWell, Cond.code yX9_isWell cX9_isWell 1 (some .boolean), Cond.methodLink RX9 140 yX9_liveIn, Cond.instanceMethod yX9_liveIn, Cond.selects RX9 yX9_liveIn yX9_liveIn, Cond.code yX9_liveIn cX9_liveIn 3 (some .int), Cond.methodLink RX9 143 yX9_liveVolume, Cond.instanceMethod yX9_liveVolume, Cond.selects RX9 yX9_liveVolume yX9_liveVolume, Cond.code yX9_liveVolume cX9_liveVolume 4 (some .long), Cond.methodLink RX9 151 yX9_hasRoom, Cond.instanceMethod yX9_hasRoom, Cond.selects RX9 yX9_hasRoom yX9_hasRoom, Cond.code yX9_hasRoom cX9_hasRoom 2 (some .boolean), Cond.methodLink RX9 67 yX9_lengthOf, Cond.static yX9_lengthOf, Cond.code yX9_lengthOf cX9_lengthOf 1 (some .int), Cond.methodLink RX9 154 yX9_begin, Cond.instanceMethod yX9_begin, Cond.selects RX9 yX9_begin yX9_begin, Cond.code yX9_begin cX9_begin 2 none, Cond.methodLink RX9 157 yX9_u8]
def wsL_law_r18 : List Cond := [Cond.instanceMethod yX9_u8, Cond.selects RX9 yX9_u8 yX9_u8, Cond.code yX9_u8 cX9_u8 3 none, Cond.methodLink RX9 161 yX9_acts, Cond.instanceMethod yX9_acts, Cond.selects RX9 yX9_acts yX9_acts, Cond.code yX9_acts cX9_acts 1 (some .boolean), Cond.methodLink RX9 130 yX9_checked, Cond.instanceMethod yX9_checked, Cond.selects RX9 yX9_checked yX9_checked, Cond.code yX9_checked cX9_checked 1 none, Cond.methodLink RX9 133 yX9_writeRow, Cond.instanceMethod yX9_writeRow, Cond.selects RX9 yX9_writeRow yX9_writeRow, Cond.code yX9_writeRow cX9_writeRow 4 (some .boolean), Cond.methodLink RX9 84 yX9_write, Cond.instanceMethod yX9_write, Cond.selects RX9 yX9_write yX9_write, Cond.code yX9_write cX9_write 4 (some .boolean), Cond.fieldLink RX9 74 "SampleTrackerModel" "written" "I", Cond.methodLink RX9 71 yX9_fails, Cond.instanceMethod yX9_fails, Cond.selects RX9 yX9_fails yX9_fails, Cond.code yX9_fails cX9_fails 1 none]
def wsL_law_r19 : List Cond := [Cond.fieldLink RX9 81 "SampleTrackerModel" "failures" "I", Cond.methodLink RL 28 yX8_aliquot, Cond.instanceMethod yX8_aliquot, Cond.selects RX8 yX8_aliquot yX8_aliquot, Cond.code yX8_aliquot cX8_aliquot 6 (some .int), Cond.methodLink RX8 68 yX7_isLive, Cond.instanceMethod yX7_isLive, Cond.selects RX7 yX7_isLive yX7_isLive, Cond.code yX7_isLive cX7_isLive 2 (some .boolean), Cond.methodLink RX8 72 yX7_volumeOf, Cond.methodLink RL 32 yX9_aliquot, Cond.instanceMethod yX9_aliquot, Cond.selects RX9 yX9_aliquot yX9_aliquot, Cond.code yX9_aliquot cX9_aliquot 5 (some .int), Cond.methodLink RX9 165 yX9_isLive, Cond.instanceMethod yX9_isLive, Cond.selects RX9 yX9_isLive yX9_isLive, Cond.code yX9_isLive cX9_isLive 2 (some .boolean), Cond.methodLink RL 33 yX8_move, Cond.instanceMethod yX8_move, Cond.selects RX8 yX8_move yX8_move, Cond.code yX8_move cX8_move 4 (some .int), Cond.methodLink RL 37 yX9_move, Cond.instanceMethod yX9_move]
def wsL_law_r20 : List Cond := [Cond.selects RX9 yX9_move yX9_move, Cond.code yX9_move cX9_move 3 (some .int), Cond.methodLink RL 38 yX8_discard, Cond.instanceMethod yX8_discard, Cond.selects RX8 yX8_discard yX8_discard, Cond.code yX8_discard cX8_discard 2 (some .int), Cond.methodLink RL 42 yX9_discard, Cond.instanceMethod yX9_discard, Cond.selects RX9 yX9_discard yX9_discard, Cond.code yX9_discard cX9_discard 2 (some .int), Cond.methodLink RL 43 yX8_undo, Cond.instanceMethod yX8_undo, Cond.selects RX8 yX8_undo yX8_undo, Cond.code yX8_undo cX8_undo 2 (some .int), Cond.methodLink RX8 87 yX7_pastActs, Cond.instanceMethod yX7_pastActs, Cond.selects RX7 yX7_pastActs yX7_pastActs, Cond.code yX7_pastActs cX7_pastActs 1 (some .int), Cond.methodLink RX7 75 yX4_size, Cond.instanceMethod yX4_size, Cond.selects RX4 yX4_size yX4_size, Cond.code yX4_size cX4_size 1 (some .int), Cond.methodLink RL 47 yX9_undo, Cond.instanceMethod yX9_undo]
def wsL_law_r21 : List Cond := [Cond.selects RX9 yX9_undo yX9_undo, Cond.code yX9_undo cX9_undo 1 (some .int), Cond.methodLink RL 48 yX8_compact, Cond.instanceMethod yX8_compact, Cond.selects RX8 yX8_compact yX8_compact, Cond.code yX8_compact cX8_compact 1 (some .int), Cond.methodLink RX8 90 yX3_otherBankHolds, Cond.instanceMethod yX3_otherBankHolds, Cond.selects RX3 yX3_otherBankHolds yX3_otherBankHolds, Cond.code yX3_otherBankHolds cX3_otherBankHolds 2 (some .boolean), Cond.methodLink RX8 93 yX3_writeAnew, Cond.instanceMethod yX3_writeAnew, Cond.selects RX3 yX3_writeAnew yX3_writeAnew, Cond.code yX3_writeAnew cX3_writeAnew 6 (some .boolean), Cond.methodLink RX3 84 yX5_writeZeros, Cond.instanceMethod yX5_writeZeros, Cond.selects RX5 yX5_writeZeros yX5_writeZeros, Cond.code yX5_writeZeros cX5_writeZeros 3 none, Cond.methodLink RX3 87 yX7_lostVolume, Cond.instanceMethod yX7_lostVolume, Cond.selects RX7 yX7_lostVolume yX7_lostVolume, Cond.code yX7_lostVolume cX7_lostVolume 1 (some .long), Cond.methodLink RX3 93 yX2_set, Cond.methodLink RX3 97 yX7_sampleCount]
def wsL_law_r22 : List Cond := [Cond.methodLink RX3 100 yX7_isLive, Cond.methodLink RX3 104 yX7_wellOf, Cond.methodLink RX3 108 yX7_parentOf, Cond.instanceMethod yX7_parentOf, Cond.selects RX7 yX7_parentOf yX7_parentOf, Cond.code yX7_parentOf cX7_parentOf 2 (some .int), Cond.methodLink RX3 111 yX7_volumeOf, Cond.methodLink RX3 115 yX3_generation, Cond.instanceMethod yX3_generation, Cond.selects RX3 yX3_generation yX3_generation, Cond.code yX3_generation cX3_generation 1 (some .int), Cond.methodLink RX3 57 yX0_number, Cond.instanceMethod yX0_number, Cond.selects RX0 yX0_number yX0_number, Cond.code yX0_number cX0_number 6 (some .long), Cond.methodLink RX0 21 yX0_at, Cond.instanceMethod yX0_at, Cond.selects RX0 yX0_at yX0_at, Cond.code yX0_at cX0_at 2 (some .int), Cond.methodLink RX8 97 yX7_forgetPast, Cond.instanceMethod yX7_forgetPast, Cond.selects RX7 yX7_forgetPast yX7_forgetPast, Cond.code yX7_forgetPast cX7_forgetPast 1 none, Cond.methodLink RX7 79 yX4_forget]
def wsL_law_r23 : List Cond := [Cond.instanceMethod yX4_forget, Cond.selects RX4 yX4_forget yX4_forget, Cond.code yX4_forget cX4_forget 1 none, Cond.methodLink RL 51 yX9_compact, Cond.instanceMethod yX9_compact, Cond.selects RX9 yX9_compact yX9_compact, Cond.code yX9_compact cX9_compact 4 (some .int), Cond.methodLink RX9 96 yX9_generation, Cond.instanceMethod yX9_generation, Cond.selects RX9 yX9_generation yX9_generation, Cond.code yX9_generation cX9_generation 2 (some .long), Cond.methodLink RL 52 yX8_cut, Cond.instanceMethod yX8_cut, Cond.selects RX8 yX8_cut yX8_cut, Cond.code yX8_cut cX8_cut 2 (some .int), Cond.methodLink RX8 100 yX6_failBehind, Cond.instanceMethod yX6_failBehind, Cond.selects RX6 yX6_failBehind yX6_failBehind, Cond.code yX6_failBehind cX6_failBehind 2 none, Cond.methodLink RL 55 yX9_cut, Cond.instanceMethod yX9_cut, Cond.selects RX9 yX9_cut yX9_cut, Cond.code yX9_cut cX9_cut 2 (some .int), Cond.methodLink RL 56 yX8_recover]
def wsL_law_r24 : List Cond := [Cond.instanceMethod yX8_recover, Cond.selects RX8 yX8_recover yX8_recover, Cond.code yX8_recover cX8_recover 2 (some .int), Cond.methodLink RX8 104 yX6_restore, Cond.instanceMethod yX6_restore, Cond.selects RX6 yX6_restore yX6_restore, Cond.code yX6_restore cX6_restore 1 none, Cond.methodLink RX8 107 yX3_chooseBank, Cond.instanceMethod yX3_chooseBank, Cond.selects RX3 yX3_chooseBank yX3_chooseBank, Cond.code yX3_chooseBank cX3_chooseBank 4 none, Cond.methodLink RX3 118 yX0_hasRightHead, Cond.instanceMethod yX0_hasRightHead, Cond.selects RX0 yX0_hasRightHead yX0_hasRightHead, Cond.code yX0_hasRightHead cX0_hasRightHead 1 (some .boolean), Cond.methodLink RX0 25 yX0_isClosedRight, Cond.instanceMethod yX0_isClosedRight, Cond.selects RX0 yX0_isClosedRight yX0_isClosedRight, Cond.code yX0_isClosedRight cX0_isClosedRight 6 (some .boolean), Cond.methodLink RX0 35 yX1_step, Cond.methodLink RX0 29 yX0_number, Cond.methodLink RX0 38 yX1_end, Cond.methodLink RX8 110 yX7_makeEmpty, Cond.instanceMethod yX7_makeEmpty]
def wsL_law_r25 : List Cond := [Cond.selects RX7 yX7_makeEmpty yX7_makeEmpty, Cond.code yX7_makeEmpty cX7_makeEmpty 1 none, Cond.methodLink RX8 113 yX3_readNext, Cond.instanceMethod yX3_readNext, Cond.selects RX3 yX3_readNext yX3_readNext, Cond.code yX3_readNext cX3_readNext 3 (some .boolean), Cond.methodLink RX3 121 yX0_wholeRecordAt, Cond.instanceMethod yX0_wholeRecordAt, Cond.selects RX0 yX0_wholeRecordAt yX0_wholeRecordAt, Cond.code yX0_wholeRecordAt cX0_wholeRecordAt 4 (some .int), Cond.methodLink RX3 124 yX2_readFrom, Cond.instanceMethod yX2_readFrom, Cond.selects RX2 yX2_readFrom yX2_readFrom, Cond.code yX2_readFrom cX2_readFrom 4 none, Cond.methodLink RX2 35 yX0_at, Cond.methodLink RX2 41 yX0_number, Cond.methodLink RX8 121 yX3_blankTheRest, Cond.instanceMethod yX3_blankTheRest, Cond.selects RX3 yX3_blankTheRest yX3_blankTheRest, Cond.code yX3_blankTheRest cX3_blankTheRest 1 none, Cond.methodLink RX3 127 yX0_blankFrom, Cond.instanceMethod yX0_blankFrom, Cond.selects RX0 yX0_blankFrom yX0_blankFrom, Cond.code yX0_blankFrom cX0_blankFrom 3 none]
def wsL_law_r26 : List Cond := [Cond.methodLink RL 59 yX9_recover, Cond.instanceMethod yX9_recover, Cond.selects RX9 yX9_recover yX9_recover, Cond.code yX9_recover cX9_recover 3 (some .int), Cond.methodLink RX9 92 yX9_isRight, Cond.instanceMethod yX9_isRight, Cond.selects RX9 yX9_isRight yX9_isRight, Cond.code yX9_isRight cX9_isRight 2 (some .boolean), Cond.methodLink RL 60 yX8_octet, Cond.instanceMethod yX8_octet, Cond.selects RX8 yX8_octet yX8_octet, Cond.code yX8_octet cX8_octet 3 (some .int), Cond.methodLink RX8 124 yX3_bank, Cond.methodLink RX8 128 yX0_at, Cond.methodLink RL 63 yX9_octet, Cond.instanceMethod yX9_octet, Cond.selects RX9 yX9_octet yX9_octet, Cond.code yX9_octet cX9_octet 3 (some .int), Cond.methodLink RL 64 yX8_sample, Cond.instanceMethod yX8_sample, Cond.selects RX8 yX8_sample yX8_sample, Cond.code yX8_sample cX8_sample 3 (some .int), Cond.methodLink RX8 133 yX7_isSample, Cond.methodLink RX8 136 yX7_parentOf]
def wsL_law_r27 : List Cond := [Cond.methodLink RX8 139 yX7_wellOf, Cond.methodLink RX8 142 yX7_childrenOf, Cond.instanceMethod yX7_childrenOf, Cond.selects RX7 yX7_childrenOf yX7_childrenOf, Cond.code yX7_childrenOf cX7_childrenOf 4 (some .int), Cond.methodLink RX7 57 yX7_parentOf, Cond.methodLink RX8 145 yX7_stepsToOrigin, Cond.instanceMethod yX7_stepsToOrigin, Cond.selects RX7 yX7_stepsToOrigin yX7_stepsToOrigin, Cond.code yX7_stepsToOrigin cX7_stepsToOrigin 4 (some .int), Cond.methodLink RX8 148 yX7_originOf, Cond.instanceMethod yX7_originOf, Cond.selects RX7 yX7_originOf yX7_originOf, Cond.code yX7_originOf cX7_originOf 4 (some .int), Cond.methodLink RX7 60 yX7_stepsToOrigin, Cond.methodLink RL 67 yX9_sample, Cond.instanceMethod yX9_sample, Cond.selects RX9 yX9_sample yX9_sample, Cond.code yX9_sample cX9_sample 6 (some .int), Cond.methodLink RX9 168 yX9_isHere, Cond.instanceMethod yX9_isHere, Cond.selects RX9 yX9_isHere yX9_isHere, Cond.code yX9_isHere cX9_isHere 2 (some .boolean), Cond.methodLink RL 68 yX8_volume]
def wsL_law_r28 : List Cond := [Cond.instanceMethod yX8_volume, Cond.selects RX8 yX8_volume yX8_volume, Cond.code yX8_volume cX8_volume 2 (some .long), Cond.constantLong RX8 151 (-1), Cond.methodLink RL 72 yX9_volume, Cond.instanceMethod yX9_volume, Cond.selects RX9 yX9_volume yX9_volume, Cond.code yX9_volume cX9_volume 2 (some .long), Cond.constantLong RX9 171 (-1), Cond.methodLink RL 73 yX8_well, Cond.instanceMethod yX8_well, Cond.selects RX8 yX8_well yX8_well, Cond.code yX8_well cX8_well 2 (some .int), Cond.methodLink RL 76 yX9_well, Cond.instanceMethod yX9_well, Cond.selects RX9 yX9_well yX9_well, Cond.code yX9_well cX9_well 2 (some .int), Cond.methodLink RL 77 yX8_total, Cond.instanceMethod yX8_total, Cond.selects RX8 yX8_total yX8_total, Cond.code yX8_total cX8_total 3 (some .long), Cond.methodLink RX8 156 yX7_liveVolume, Cond.methodLink RX8 159 yX7_lostVolume, Cond.methodLink RX8 162 yX7_volumeOfFamily]
def wsL_law_r29 : List Cond := [Cond.instanceMethod yX7_volumeOfFamily, Cond.selects RX7 yX7_volumeOfFamily yX7_volumeOfFamily, Cond.code yX7_volumeOfFamily cX7_volumeOfFamily 6 (some .long), Cond.methodLink RL 81 yX9_total, Cond.instanceMethod yX9_total, Cond.selects RX9 yX9_total yX9_total, Cond.code yX9_total cX9_total 7 (some .long), Cond.methodLink RL 82 yX8_count, Cond.instanceMethod yX8_count, Cond.selects RX8 yX8_count yX8_count, Cond.code yX8_count cX8_count 2 (some .int), Cond.methodLink RX8 165 yX3_bankBytes, Cond.methodLink RX8 168 yX6_bytesWritten, Cond.instanceMethod yX6_bytesWritten, Cond.selects RX6 yX6_bytesWritten yX6_bytesWritten, Cond.code yX6_bytesWritten cX6_bytesWritten 1 (some .int), Cond.methodLink RX8 171 yX6_failures, Cond.instanceMethod yX6_failures, Cond.selects RX6 yX6_failures yX6_failures, Cond.code yX6_failures cX6_failures 1 (some .int), Cond.methodLink RX8 174 yX8_countWithPower, Cond.instanceMethod yX8_countWithPower, Cond.selects RX8 yX8_countWithPower yX8_countWithPower, Cond.code yX8_countWithPower cX8_countWithPower 2 (some .int)]
def wsL_law_r30 : List Cond := [Cond.methodLink RX8 177 yX3_bankInUse, Cond.instanceMethod yX3_bankInUse, Cond.selects RX3 yX3_bankInUse yX3_bankInUse, Cond.code yX3_bankInUse cX3_bankInUse 1 (some .int), Cond.methodLink RX8 180 yX3_generation, Cond.methodLink RX8 183 yX3_end, Cond.instanceMethod yX3_end, Cond.selects RX3 yX3_end yX3_end, Cond.code yX3_end cX3_end 1 (some .int), Cond.methodLink RX8 186 yX7_liveCount, Cond.instanceMethod yX7_liveCount, Cond.selects RX7 yX7_liveCount yX7_liveCount, Cond.code yX7_liveCount cX7_liveCount 3 (some .int), Cond.methodLink RX7 54 yX7_isLive, Cond.methodLink RL 85 yX9_count, Cond.instanceMethod yX9_count, Cond.selects RX9 yX9_count yX9_count, Cond.code yX9_count cX9_count 4 (some .int)]
def wsL_law : List Cond := (wsL_law_r1 ++ (wsL_law_r2 ++ (wsL_law_r3 ++ (wsL_law_r4 ++ (wsL_law_r5 ++ (wsL_law_r6 ++ (wsL_law_r7 ++ (wsL_law_r8 ++ (wsL_law_r9 ++ (wsL_law_r10 ++ (wsL_law_r11 ++ (wsL_law_r12 ++ (wsL_law_r13 ++ (wsL_law_r14 ++ (wsL_law_r15 ++ (wsL_law_r16 ++ (wsL_law_r17 ++ (wsL_law_r18 ++ (wsL_law_r19 ++ (wsL_law_r20 ++ (wsL_law_r21 ++ (wsL_law_r22 ++ (wsL_law_r23 ++ (wsL_law_r24 ++ (wsL_law_r25 ++ (wsL_law_r26 ++ (wsL_law_r27 ++ (wsL_law_r28 ++ (wsL_law_r29 ++ wsL_law_r30))))))))))))))))))))))))))))) ++ wsX80 ++ wsX90 ++ wsX60 ++ wsX30 ++ wsX70 ++ wsX20 ++ wsX00 ++ wsX50 ++ wsX40 ++ ([] : List Cond)
set_option maxRecDepth 20000 in
abbrev vwCl : List vw_C := [(RX0, TX0, 1), (RX2, TX2, 4), (RX3, TX3, 6), (RX4, TX4, 6), (RX5, TX5, 4), (RX6, TX6, 5), (RX7, TX7, 7), (RX8, TX8, 4), (RX9, TX9, 20)]
end
section
theorem dX0_init_0 : decode cX0_init 0 = .ok (.aload_n 0, 1) := by decide +kernel
theorem dX0_init_1 : decode cX0_init 1 = .ok (.invokespecial 3, 3) := by decide +kernel
theorem dX0_init_4 : decode cX0_init 4 = .ok (.aload_n 0, 1) := by decide +kernel
theorem dX0_init_5 : decode cX0_init 5 = .ok (.iconst 0, 1) := by decide +kernel
theorem dX0_init_6 : decode cX0_init 6 = .ok (.iload_n 1, 1) := by decide +kernel
theorem dX0_init_7 : decode cX0_init 7 = .ok (.invokestatic 9, 3) := by decide +kernel
theorem dX0_init_10 : decode cX0_init 10 = .ok (.newarray .byte, 2) := by decide +kernel
theorem dX0_init_12 : decode cX0_init 12 = .ok (.putfield 15, 3) := by decide +kernel
theorem dX0_init_15 : decode cX0_init 15 = .ok (.return_, 1) := by decide +kernel
theorem dX0_size_0 : decode cX0_size 0 = .ok (.aload_n 0, 1) := by decide +kernel
theorem dX0_size_1 : decode cX0_size 1 = .ok (.getfield 15, 3) := by decide +kernel
theorem dX0_size_4 : decode cX0_size 4 = .ok (.arraylength, 1) := by decide +kernel
theorem dX0_size_5 : decode cX0_size 5 = .ok (.ireturn, 1) := by decide +kernel
theorem dX0_at_0 : decode cX0_at 0 = .ok (.iload_n 1, 1) := by decide +kernel
theorem dX0_at_1 : decode cX0_at 1 = .ok (.ifCond .lt 25, 3) := by decide +kernel
theorem dX0_at_4 : decode cX0_at 4 = .ok (.iload_n 1, 1) := by decide +kernel
theorem dX0_at_5 : decode cX0_at 5 = .ok (.aload_n 0, 1) := by decide +kernel
theorem dX0_at_6 : decode cX0_at 6 = .ok (.getfield 15, 3) := by decide +kernel
theorem dX0_at_9 : decode cX0_at 9 = .ok (.arraylength, 1) := by decide +kernel
theorem dX0_at_10 : decode cX0_at 10 = .ok (.if_icmp .ge 16, 3) := by decide +kernel
theorem dX0_at_13 : decode cX0_at 13 = .ok (.aload_n 0, 1) := by decide +kernel
theorem dX0_at_14 : decode cX0_at 14 = .ok (.getfield 15, 3) := by decide +kernel
theorem dX0_at_17 : decode cX0_at 17 = .ok (.iload_n 1, 1) := by decide +kernel
theorem dX0_at_18 : decode cX0_at 18 = .ok (.baload, 1) := by decide +kernel
theorem dX0_at_19 : decode cX0_at 19 = .ok (.sipush 255, 3) := by decide +kernel
theorem dX0_at_22 : decode cX0_at 22 = .ok (.iand, 1) := by decide +kernel
theorem dX0_at_23 : decode cX0_at 23 = .ok (.goto 4, 3) := by decide +kernel
theorem dX0_at_26 : decode cX0_at 26 = .ok (.iconst (-1), 1) := by decide +kernel
theorem dX0_at_27 : decode cX0_at 27 = .ok (.ireturn, 1) := by decide +kernel
theorem dX0_put_0 : decode cX0_put 0 = .ok (.iload_n 1, 1) := by decide +kernel
theorem dX0_put_1 : decode cX0_put 1 = .ok (.ifCond .lt 20, 3) := by decide +kernel
theorem dX0_put_4 : decode cX0_put 4 = .ok (.iload_n 1, 1) := by decide +kernel
theorem dX0_put_5 : decode cX0_put 5 = .ok (.aload_n 0, 1) := by decide +kernel
theorem dX0_put_6 : decode cX0_put 6 = .ok (.getfield 15, 3) := by decide +kernel
theorem dX0_put_9 : decode cX0_put 9 = .ok (.arraylength, 1) := by decide +kernel
theorem dX0_put_10 : decode cX0_put 10 = .ok (.if_icmp .ge 11, 3) := by decide +kernel
theorem dX0_put_13 : decode cX0_put 13 = .ok (.aload_n 0, 1) := by decide +kernel
theorem dX0_put_14 : decode cX0_put 14 = .ok (.getfield 15, 3) := by decide +kernel
theorem dX0_put_17 : decode cX0_put 17 = .ok (.iload_n 1, 1) := by decide +kernel
theorem dX0_put_18 : decode cX0_put 18 = .ok (.iload_n 2, 1) := by decide +kernel
theorem dX0_put_19 : decode cX0_put 19 = .ok (.i2b, 1) := by decide +kernel
theorem dX0_put_20 : decode cX0_put 20 = .ok (.bastore, 1) := by decide +kernel
theorem dX0_put_21 : decode cX0_put 21 = .ok (.return_, 1) := by decide +kernel
set_option maxRecDepth 20000 in
theorem ggX0_number_X0_at : GoodIn wsX0_number wsX0_at := goodIn_r _ [5, 6, 7] (by decide +kernel) (by decide +kernel)
set_option maxRecDepth 20000 in
theorem gX0_number_X0_at : GoodIn wsX0_number (wsV RX0 21 RX0 yX0_at wsX0_at) := goodIn_app (goodIn_of _ (by decide +kernel)) ggX0_number_X0_at
theorem dX0_number_0 : decode cX0_number 0 = .ok (.lconst 0, 1) := by decide +kernel
theorem dX0_number_1 : decode cX0_number 1 = .ok (.lstore_n 3, 1) := by decide +kernel
theorem dX0_number_2 : decode cX0_number 2 = .ok (.iconst 0, 1) := by decide +kernel
theorem dX0_number_3 : decode cX0_number 3 = .ok (.istore 5, 2) := by decide +kernel
theorem dX0_number_5 : decode cX0_number 5 = .ok (.iload 5, 2) := by decide +kernel
theorem dX0_number_7 : decode cX0_number 7 = .ok (.iload_n 2, 1) := by decide +kernel
theorem dX0_number_8 : decode cX0_number 8 = .ok (.if_icmp .ge 28, 3) := by decide +kernel
theorem dX0_number_11 : decode cX0_number 11 = .ok (.lload_n 3, 1) := by decide +kernel
theorem dX0_number_12 : decode cX0_number 12 = .ok (.bipush 8, 2) := by decide +kernel
theorem dX0_number_14 : decode cX0_number 14 = .ok (.lshl, 1) := by decide +kernel
theorem dX0_number_15 : decode cX0_number 15 = .ok (.aload_n 0, 1) := by decide +kernel
theorem dX0_number_16 : decode cX0_number 16 = .ok (.iload_n 1, 1) := by decide +kernel
theorem dX0_number_17 : decode cX0_number 17 = .ok (.iload 5, 2) := by decide +kernel
theorem dX0_number_19 : decode cX0_number 19 = .ok (.iadd, 1) := by decide +kernel
theorem dX0_number_20 : decode cX0_number 20 = .ok (.invokevirtual 21, 3) := by decide +kernel
theorem dX0_number_23 : decode cX0_number 23 = .ok (.sipush 255, 3) := by decide +kernel
theorem dX0_number_26 : decode cX0_number 26 = .ok (.iand, 1) := by decide +kernel
theorem dX0_number_27 : decode cX0_number 27 = .ok (.i2l, 1) := by decide +kernel
theorem dX0_number_28 : decode cX0_number 28 = .ok (.lor, 1) := by decide +kernel
theorem dX0_number_29 : decode cX0_number 29 = .ok (.lstore_n 3, 1) := by decide +kernel
theorem dX0_number_30 : decode cX0_number 30 = .ok (.iinc 5 1, 3) := by decide +kernel
theorem dX0_number_33 : decode cX0_number 33 = .ok (.goto (-28), 3) := by decide +kernel
theorem dX0_number_36 : decode cX0_number 36 = .ok (.lload_n 3, 1) := by decide +kernel
theorem dX0_number_37 : decode cX0_number 37 = .ok (.lreturn, 1) := by decide +kernel
set_option maxRecDepth 20000 in
theorem ggX0_hasRightHead_X0_isClosedRight : GoodIn wsX0_hasRightHead wsX0_isClosedRight := goodIn_r _ [5, 6, 7, 8, 4, 9, 10, 11, 12, 13, 14, 15, 16, 17, 18, 19, 20, 21, 22, 23] (by decide +kernel) (by decide +kernel)
set_option maxRecDepth 20000 in
theorem gX0_hasRightHead_X0_isClosedRight : GoodIn wsX0_hasRightHead (wsV RX0 25 RX0 yX0_isClosedRight wsX0_isClosedRight) := goodIn_app (goodIn_of _ (by decide +kernel)) ggX0_hasRightHead_X0_isClosedRight
theorem dX0_hasRightHead_0 : decode cX0_hasRightHead 0 = .ok (.aload_n 0, 1) := by decide +kernel
theorem dX0_hasRightHead_1 : decode cX0_hasRightHead 1 = .ok (.iconst 0, 1) := by decide +kernel
theorem dX0_hasRightHead_2 : decode cX0_hasRightHead 2 = .ok (.bipush 9, 2) := by decide +kernel
theorem dX0_hasRightHead_4 : decode cX0_hasRightHead 4 = .ok (.invokevirtual 25, 3) := by decide +kernel
theorem dX0_hasRightHead_7 : decode cX0_hasRightHead 7 = .ok (.ireturn, 1) := by decide +kernel
set_option maxRecDepth 20000 in
theorem ggX0_wholeRecordAt_X0_number : GoodIn wsX0_wholeRecordAt wsX0_number := goodIn_r _ [6, 7, 8, 9, 5, 10, 1, 23] (by decide +kernel) (by decide +kernel)
set_option maxRecDepth 20000 in
theorem gX0_wholeRecordAt_X0_number : GoodIn wsX0_wholeRecordAt (wsV RX0 29 RX0 yX0_number wsX0_number) := goodIn_app (goodIn_of _ (by decide +kernel)) ggX0_wholeRecordAt_X0_number
set_option maxRecDepth 20000 in
theorem ggX0_wholeRecordAt_X0_isClosedRight : GoodIn wsX0_wholeRecordAt wsX0_isClosedRight := goodIn_r _ [14, 7, 8, 9, 5, 10, 1, 15, 16, 17, 18, 19, 2, 3, 4, 6, 20, 21, 22, 23] (by decide +kernel) (by decide +kernel)
set_option maxRecDepth 20000 in
theorem gX0_wholeRecordAt_X0_isClosedRight : GoodIn wsX0_wholeRecordAt (wsV RX0 25 RX0 yX0_isClosedRight wsX0_isClosedRight) := goodIn_app (goodIn_of _ (by decide +kernel)) ggX0_wholeRecordAt_X0_isClosedRight
theorem dX0_wholeRecordAt_0 : decode cX0_wholeRecordAt 0 = .ok (.aload_n 0, 1) := by decide +kernel
theorem dX0_wholeRecordAt_1 : decode cX0_wholeRecordAt 1 = .ok (.iload_n 1, 1) := by decide +kernel
theorem dX0_wholeRecordAt_2 : decode cX0_wholeRecordAt 2 = .ok (.iconst 2, 1) := by decide +kernel
theorem dX0_wholeRecordAt_3 : decode cX0_wholeRecordAt 3 = .ok (.invokevirtual 29, 3) := by decide +kernel
theorem dX0_wholeRecordAt_6 : decode cX0_wholeRecordAt 6 = .ok (.l2i, 1) := by decide +kernel
theorem dX0_wholeRecordAt_7 : decode cX0_wholeRecordAt 7 = .ok (.istore_n 2, 1) := by decide +kernel
theorem dX0_wholeRecordAt_8 : decode cX0_wholeRecordAt 8 = .ok (.iload_n 2, 1) := by decide +kernel
theorem dX0_wholeRecordAt_9 : decode cX0_wholeRecordAt 9 = .ok (.bipush 8, 2) := by decide +kernel
theorem dX0_wholeRecordAt_11 : decode cX0_wholeRecordAt 11 = .ok (.if_icmp .lt 18, 3) := by decide +kernel
theorem dX0_wholeRecordAt_14 : decode cX0_wholeRecordAt 14 = .ok (.iload_n 2, 1) := by decide +kernel
theorem dX0_wholeRecordAt_15 : decode cX0_wholeRecordAt 15 = .ok (.aload_n 0, 1) := by decide +kernel
theorem dX0_wholeRecordAt_16 : decode cX0_wholeRecordAt 16 = .ok (.getfield 15, 3) := by decide +kernel
theorem dX0_wholeRecordAt_19 : decode cX0_wholeRecordAt 19 = .ok (.arraylength, 1) := by decide +kernel
theorem dX0_wholeRecordAt_20 : decode cX0_wholeRecordAt 20 = .ok (.iload_n 1, 1) := by decide +kernel
theorem dX0_wholeRecordAt_21 : decode cX0_wholeRecordAt 21 = .ok (.isub, 1) := by decide +kernel
theorem dX0_wholeRecordAt_22 : decode cX0_wholeRecordAt 22 = .ok (.if_icmp .gt 7, 3) := by decide +kernel
theorem dX0_wholeRecordAt_25 : decode cX0_wholeRecordAt 25 = .ok (.iconst 1, 1) := by decide +kernel
theorem dX0_wholeRecordAt_26 : decode cX0_wholeRecordAt 26 = .ok (.goto 4, 3) := by decide +kernel
theorem dX0_wholeRecordAt_29 : decode cX0_wholeRecordAt 29 = .ok (.iconst 0, 1) := by decide +kernel
theorem dX0_wholeRecordAt_30 : decode cX0_wholeRecordAt 30 = .ok (.istore_n 3, 1) := by decide +kernel
theorem dX0_wholeRecordAt_31 : decode cX0_wholeRecordAt 31 = .ok (.iload_n 3, 1) := by decide +kernel
theorem dX0_wholeRecordAt_32 : decode cX0_wholeRecordAt 32 = .ok (.ifCond .eq 16, 3) := by decide +kernel
theorem dX0_wholeRecordAt_35 : decode cX0_wholeRecordAt 35 = .ok (.aload_n 0, 1) := by decide +kernel
theorem dX0_wholeRecordAt_36 : decode cX0_wholeRecordAt 36 = .ok (.iload_n 1, 1) := by decide +kernel
theorem dX0_wholeRecordAt_37 : decode cX0_wholeRecordAt 37 = .ok (.iload_n 2, 1) := by decide +kernel
theorem dX0_wholeRecordAt_38 : decode cX0_wholeRecordAt 38 = .ok (.invokevirtual 25, 3) := by decide +kernel
theorem dX0_wholeRecordAt_41 : decode cX0_wholeRecordAt 41 = .ok (.ifCond .eq 7, 3) := by decide +kernel
theorem dX0_wholeRecordAt_44 : decode cX0_wholeRecordAt 44 = .ok (.iload_n 2, 1) := by decide +kernel
theorem dX0_wholeRecordAt_45 : decode cX0_wholeRecordAt 45 = .ok (.goto 4, 3) := by decide +kernel
theorem dX0_wholeRecordAt_48 : decode cX0_wholeRecordAt 48 = .ok (.iconst 0, 1) := by decide +kernel
theorem dX0_wholeRecordAt_49 : decode cX0_wholeRecordAt 49 = .ok (.ireturn, 1) := by decide +kernel
set_option maxRecDepth 20000 in
theorem ggX0_isClosedRight_X0_at : GoodIn wsX0_isClosedRight wsX0_at := goodIn_r _ [5, 6, 19] (by decide +kernel) (by decide +kernel)
set_option maxRecDepth 20000 in
theorem gX0_isClosedRight_X0_at : GoodIn wsX0_isClosedRight (wsV RX0 21 RX0 yX0_at wsX0_at) := goodIn_app (goodIn_of _ (by decide +kernel)) ggX0_isClosedRight_X0_at
set_option maxRecDepth 20000 in
theorem ggX0_isClosedRight_X1_step : GoodIn wsX0_isClosedRight wsX1_step := goodIn_r _ [10, 11] (by decide +kernel) (by decide +kernel)
set_option maxRecDepth 20000 in
theorem gX0_isClosedRight_X1_step : GoodIn wsX0_isClosedRight (va_wsS RX0 35 yX1_step wsX1_step) := goodIn_app (goodIn_of _ (by decide +kernel)) ggX0_isClosedRight_X1_step
set_option maxRecDepth 20000 in
theorem ggX0_isClosedRight_X0_number : GoodIn wsX0_isClosedRight wsX0_number := goodIn_r _ [15, 1, 2, 3, 4, 5, 6, 19] (by decide +kernel) (by decide +kernel)
set_option maxRecDepth 20000 in
theorem gX0_isClosedRight_X0_number : GoodIn wsX0_isClosedRight (wsV RX0 29 RX0 yX0_number wsX0_number) := goodIn_app (goodIn_of _ (by decide +kernel)) ggX0_isClosedRight_X0_number
set_option maxRecDepth 20000 in
theorem ggX0_isClosedRight_X1_end : GoodIn wsX0_isClosedRight wsX1_end := goodIn_r _ [18] (by decide +kernel) (by decide +kernel)
set_option maxRecDepth 20000 in
theorem gX0_isClosedRight_X1_end : GoodIn wsX0_isClosedRight (va_wsS RX0 38 yX1_end wsX1_end) := goodIn_app (goodIn_of _ (by decide +kernel)) ggX0_isClosedRight_X1_end
theorem dX0_isClosedRight_0 : decode cX0_isClosedRight 0 = .ok (.iload_n 1, 1) := by decide +kernel
theorem dX0_isClosedRight_1 : decode cX0_isClosedRight 1 = .ok (.iload_n 2, 1) := by decide +kernel
theorem dX0_isClosedRight_2 : decode cX0_isClosedRight 2 = .ok (.iadd, 1) := by decide +kernel
theorem dX0_isClosedRight_3 : decode cX0_isClosedRight 3 = .ok (.iconst 5, 1) := by decide +kernel
theorem dX0_isClosedRight_4 : decode cX0_isClosedRight 4 = .ok (.isub, 1) := by decide +kernel
theorem dX0_isClosedRight_5 : decode cX0_isClosedRight 5 = .ok (.istore_n 3, 1) := by decide +kernel
theorem dX0_isClosedRight_6 : decode cX0_isClosedRight 6 = .ok (.iconst (-1), 1) := by decide +kernel
theorem dX0_isClosedRight_7 : decode cX0_isClosedRight 7 = .ok (.istore 4, 2) := by decide +kernel
theorem dX0_isClosedRight_9 : decode cX0_isClosedRight 9 = .ok (.iload_n 1, 1) := by decide +kernel
theorem dX0_isClosedRight_10 : decode cX0_isClosedRight 10 = .ok (.istore 5, 2) := by decide +kernel
theorem dX0_isClosedRight_12 : decode cX0_isClosedRight 12 = .ok (.iload 5, 2) := by decide +kernel
theorem dX0_isClosedRight_14 : decode cX0_isClosedRight 14 = .ok (.iload_n 3, 1) := by decide +kernel
theorem dX0_isClosedRight_15 : decode cX0_isClosedRight 15 = .ok (.if_icmp .ge 22, 3) := by decide +kernel
theorem dX0_isClosedRight_18 : decode cX0_isClosedRight 18 = .ok (.iload 4, 2) := by decide +kernel
theorem dX0_isClosedRight_20 : decode cX0_isClosedRight 20 = .ok (.aload_n 0, 1) := by decide +kernel
theorem dX0_isClosedRight_21 : decode cX0_isClosedRight 21 = .ok (.iload 5, 2) := by decide +kernel
theorem dX0_isClosedRight_23 : decode cX0_isClosedRight 23 = .ok (.invokevirtual 21, 3) := by decide +kernel
theorem dX0_isClosedRight_26 : decode cX0_isClosedRight 26 = .ok (.invokestatic 35, 3) := by decide +kernel
theorem dX0_isClosedRight_29 : decode cX0_isClosedRight 29 = .ok (.istore 4, 2) := by decide +kernel
theorem dX0_isClosedRight_31 : decode cX0_isClosedRight 31 = .ok (.iinc 5 1, 3) := by decide +kernel
theorem dX0_isClosedRight_34 : decode cX0_isClosedRight 34 = .ok (.goto (-22), 3) := by decide +kernel
theorem dX0_isClosedRight_37 : decode cX0_isClosedRight 37 = .ok (.aload_n 0, 1) := by decide +kernel
theorem dX0_isClosedRight_38 : decode cX0_isClosedRight 38 = .ok (.iload_n 3, 1) := by decide +kernel
theorem dX0_isClosedRight_39 : decode cX0_isClosedRight 39 = .ok (.iconst 4, 1) := by decide +kernel
theorem dX0_isClosedRight_40 : decode cX0_isClosedRight 40 = .ok (.invokevirtual 29, 3) := by decide +kernel
theorem dX0_isClosedRight_43 : decode cX0_isClosedRight 43 = .ok (.l2i, 1) := by decide +kernel
theorem dX0_isClosedRight_44 : decode cX0_isClosedRight 44 = .ok (.iload 4, 2) := by decide +kernel
theorem dX0_isClosedRight_46 : decode cX0_isClosedRight 46 = .ok (.invokestatic 38, 3) := by decide +kernel
theorem dX0_isClosedRight_49 : decode cX0_isClosedRight 49 = .ok (.if_icmp .ne 20, 3) := by decide +kernel
theorem dX0_isClosedRight_52 : decode cX0_isClosedRight 52 = .ok (.aload_n 0, 1) := by decide +kernel
theorem dX0_isClosedRight_53 : decode cX0_isClosedRight 53 = .ok (.iload_n 3, 1) := by decide +kernel
theorem dX0_isClosedRight_54 : decode cX0_isClosedRight 54 = .ok (.iconst 4, 1) := by decide +kernel
theorem dX0_isClosedRight_55 : decode cX0_isClosedRight 55 = .ok (.iadd, 1) := by decide +kernel
theorem dX0_isClosedRight_56 : decode cX0_isClosedRight 56 = .ok (.invokevirtual 21, 3) := by decide +kernel
theorem dX0_isClosedRight_59 : decode cX0_isClosedRight 59 = .ok (.sipush 165, 3) := by decide +kernel
theorem dX0_isClosedRight_62 : decode cX0_isClosedRight 62 = .ok (.if_icmp .ne 7, 3) := by decide +kernel
theorem dX0_isClosedRight_65 : decode cX0_isClosedRight 65 = .ok (.iconst 1, 1) := by decide +kernel
theorem dX0_isClosedRight_66 : decode cX0_isClosedRight 66 = .ok (.goto 4, 3) := by decide +kernel
theorem dX0_isClosedRight_69 : decode cX0_isClosedRight 69 = .ok (.iconst 0, 1) := by decide +kernel
theorem dX0_isClosedRight_70 : decode cX0_isClosedRight 70 = .ok (.ireturn, 1) := by decide +kernel
theorem dX0_blankFrom_0 : decode cX0_blankFrom 0 = .ok (.iconst 0, 1) := by decide +kernel
theorem dX0_blankFrom_1 : decode cX0_blankFrom 1 = .ok (.iload_n 1, 1) := by decide +kernel
theorem dX0_blankFrom_2 : decode cX0_blankFrom 2 = .ok (.invokestatic 9, 3) := by decide +kernel
theorem dX0_blankFrom_5 : decode cX0_blankFrom 5 = .ok (.istore_n 2, 1) := by decide +kernel
theorem dX0_blankFrom_6 : decode cX0_blankFrom 6 = .ok (.iload_n 2, 1) := by decide +kernel
theorem dX0_blankFrom_7 : decode cX0_blankFrom 7 = .ok (.aload_n 0, 1) := by decide +kernel
theorem dX0_blankFrom_8 : decode cX0_blankFrom 8 = .ok (.getfield 15, 3) := by decide +kernel
theorem dX0_blankFrom_11 : decode cX0_blankFrom 11 = .ok (.arraylength, 1) := by decide +kernel
theorem dX0_blankFrom_12 : decode cX0_blankFrom 12 = .ok (.if_icmp .ge 16, 3) := by decide +kernel
theorem dX0_blankFrom_15 : decode cX0_blankFrom 15 = .ok (.aload_n 0, 1) := by decide +kernel
theorem dX0_blankFrom_16 : decode cX0_blankFrom 16 = .ok (.getfield 15, 3) := by decide +kernel
theorem dX0_blankFrom_19 : decode cX0_blankFrom 19 = .ok (.iload_n 2, 1) := by decide +kernel
theorem dX0_blankFrom_20 : decode cX0_blankFrom 20 = .ok (.iconst 0, 1) := by decide +kernel
theorem dX0_blankFrom_21 : decode cX0_blankFrom 21 = .ok (.bastore, 1) := by decide +kernel
theorem dX0_blankFrom_22 : decode cX0_blankFrom 22 = .ok (.iinc 2 1, 3) := by decide +kernel
theorem dX0_blankFrom_25 : decode cX0_blankFrom 25 = .ok (.goto (-19), 3) := by decide +kernel
theorem dX0_blankFrom_28 : decode cX0_blankFrom 28 = .ok (.return_, 1) := by decide +kernel
theorem dX1_step_0 : decode cX1_step 0 = .ok (.iload_n 0, 1) := by decide +kernel
theorem dX1_step_1 : decode cX1_step 1 = .ok (.iconst 4, 1) := by decide +kernel
theorem dX1_step_2 : decode cX1_step 2 = .ok (.iushr, 1) := by decide +kernel
theorem dX1_step_3 : decode cX1_step 3 = .ok (.getstatic 7, 3) := by decide +kernel
theorem dX1_step_6 : decode cX1_step 6 = .ok (.iload_n 0, 1) := by decide +kernel
theorem dX1_step_7 : decode cX1_step 7 = .ok (.iload_n 1, 1) := by decide +kernel
theorem dX1_step_8 : decode cX1_step 8 = .ok (.ixor, 1) := by decide +kernel
theorem dX1_step_9 : decode cX1_step 9 = .ok (.bipush 15, 2) := by decide +kernel
theorem dX1_step_11 : decode cX1_step 11 = .ok (.iand, 1) := by decide +kernel
theorem dX1_step_12 : decode cX1_step 12 = .ok (.iaload, 1) := by decide +kernel
theorem dX1_step_13 : decode cX1_step 13 = .ok (.ixor, 1) := by decide +kernel
theorem dX1_step_14 : decode cX1_step 14 = .ok (.istore_n 2, 1) := by decide +kernel
theorem dX1_step_15 : decode cX1_step 15 = .ok (.iload_n 2, 1) := by decide +kernel
theorem dX1_step_16 : decode cX1_step 16 = .ok (.iconst 4, 1) := by decide +kernel
theorem dX1_step_17 : decode cX1_step 17 = .ok (.iushr, 1) := by decide +kernel
theorem dX1_step_18 : decode cX1_step 18 = .ok (.getstatic 7, 3) := by decide +kernel
theorem dX1_step_21 : decode cX1_step 21 = .ok (.iload_n 2, 1) := by decide +kernel
theorem dX1_step_22 : decode cX1_step 22 = .ok (.iload_n 1, 1) := by decide +kernel
theorem dX1_step_23 : decode cX1_step 23 = .ok (.iconst 4, 1) := by decide +kernel
theorem dX1_step_24 : decode cX1_step 24 = .ok (.iushr, 1) := by decide +kernel
theorem dX1_step_25 : decode cX1_step 25 = .ok (.ixor, 1) := by decide +kernel
theorem dX1_step_26 : decode cX1_step 26 = .ok (.bipush 15, 2) := by decide +kernel
theorem dX1_step_28 : decode cX1_step 28 = .ok (.iand, 1) := by decide +kernel
theorem dX1_step_29 : decode cX1_step 29 = .ok (.iaload, 1) := by decide +kernel
theorem dX1_step_30 : decode cX1_step 30 = .ok (.ixor, 1) := by decide +kernel
theorem dX1_step_31 : decode cX1_step 31 = .ok (.ireturn, 1) := by decide +kernel
theorem dX1_end_0 : decode cX1_end 0 = .ok (.iload_n 0, 1) := by decide +kernel
theorem dX1_end_1 : decode cX1_end 1 = .ok (.iconst (-1), 1) := by decide +kernel
theorem dX1_end_2 : decode cX1_end 2 = .ok (.ixor, 1) := by decide +kernel
theorem dX1_end_3 : decode cX1_end 3 = .ok (.ireturn, 1) := by decide +kernel
theorem dX2_init_0 : decode cX2_init 0 = .ok (.aload_n 0, 1) := by decide +kernel
theorem dX2_init_1 : decode cX2_init 1 = .ok (.invokespecial 3, 3) := by decide +kernel
theorem dX2_init_4 : decode cX2_init 4 = .ok (.aload_n 0, 1) := by decide +kernel
theorem dX2_init_5 : decode cX2_init 5 = .ok (.iconst 0, 1) := by decide +kernel
theorem dX2_init_6 : decode cX2_init 6 = .ok (.putfield 9, 3) := by decide +kernel
theorem dX2_init_9 : decode cX2_init 9 = .ok (.aload_n 0, 1) := by decide +kernel
theorem dX2_init_10 : decode cX2_init 10 = .ok (.iconst 0, 1) := by decide +kernel
theorem dX2_init_11 : decode cX2_init 11 = .ok (.putfield 15, 3) := by decide +kernel
theorem dX2_init_14 : decode cX2_init 14 = .ok (.aload_n 0, 1) := by decide +kernel
theorem dX2_init_15 : decode cX2_init 15 = .ok (.iconst 0, 1) := by decide +kernel
theorem dX2_init_16 : decode cX2_init 16 = .ok (.putfield 18, 3) := by decide +kernel
theorem dX2_init_19 : decode cX2_init 19 = .ok (.aload_n 0, 1) := by decide +kernel
theorem dX2_init_20 : decode cX2_init 20 = .ok (.lconst 0, 1) := by decide +kernel
theorem dX2_init_21 : decode cX2_init 21 = .ok (.putfield 21, 3) := by decide +kernel
theorem dX2_init_24 : decode cX2_init 24 = .ok (.return_, 1) := by decide +kernel
theorem dX2_set_0 : decode cX2_set 0 = .ok (.aload_n 0, 1) := by decide +kernel
theorem dX2_set_1 : decode cX2_set 1 = .ok (.iload_n 1, 1) := by decide +kernel
theorem dX2_set_2 : decode cX2_set 2 = .ok (.putfield 9, 3) := by decide +kernel
theorem dX2_set_5 : decode cX2_set 5 = .ok (.aload_n 0, 1) := by decide +kernel
theorem dX2_set_6 : decode cX2_set 6 = .ok (.iload_n 2, 1) := by decide +kernel
theorem dX2_set_7 : decode cX2_set 7 = .ok (.putfield 15, 3) := by decide +kernel
theorem dX2_set_10 : decode cX2_set 10 = .ok (.aload_n 0, 1) := by decide +kernel
theorem dX2_set_11 : decode cX2_set 11 = .ok (.iload_n 3, 1) := by decide +kernel
theorem dX2_set_12 : decode cX2_set 12 = .ok (.putfield 18, 3) := by decide +kernel
theorem dX2_set_15 : decode cX2_set 15 = .ok (.aload_n 0, 1) := by decide +kernel
theorem dX2_set_16 : decode cX2_set 16 = .ok (.lload 4, 2) := by decide +kernel
theorem dX2_set_18 : decode cX2_set 18 = .ok (.putfield 21, 3) := by decide +kernel
theorem dX2_set_21 : decode cX2_set 21 = .ok (.return_, 1) := by decide +kernel
theorem dX2_hasSample_0 : decode cX2_hasSample 0 = .ok (.aload_n 0, 1) := by decide +kernel
theorem dX2_hasSample_1 : decode cX2_hasSample 1 = .ok (.getfield 9, 3) := by decide +kernel
theorem dX2_hasSample_4 : decode cX2_hasSample 4 = .ok (.iconst 2, 1) := by decide +kernel
theorem dX2_hasSample_5 : decode cX2_hasSample 5 = .ok (.if_icmp .eq 28, 3) := by decide +kernel
theorem dX2_hasSample_8 : decode cX2_hasSample 8 = .ok (.aload_n 0, 1) := by decide +kernel
theorem dX2_hasSample_9 : decode cX2_hasSample 9 = .ok (.getfield 9, 3) := by decide +kernel
theorem dX2_hasSample_12 : decode cX2_hasSample 12 = .ok (.iconst 3, 1) := by decide +kernel
theorem dX2_hasSample_13 : decode cX2_hasSample 13 = .ok (.if_icmp .eq 20, 3) := by decide +kernel
theorem dX2_hasSample_16 : decode cX2_hasSample 16 = .ok (.aload_n 0, 1) := by decide +kernel
theorem dX2_hasSample_17 : decode cX2_hasSample 17 = .ok (.getfield 9, 3) := by decide +kernel
theorem dX2_hasSample_20 : decode cX2_hasSample 20 = .ok (.iconst 4, 1) := by decide +kernel
theorem dX2_hasSample_21 : decode cX2_hasSample 21 = .ok (.if_icmp .eq 12, 3) := by decide +kernel
theorem dX2_hasSample_24 : decode cX2_hasSample 24 = .ok (.aload_n 0, 1) := by decide +kernel
theorem dX2_hasSample_25 : decode cX2_hasSample 25 = .ok (.getfield 9, 3) := by decide +kernel
theorem dX2_hasSample_28 : decode cX2_hasSample 28 = .ok (.bipush 6, 2) := by decide +kernel
theorem dX2_hasSample_30 : decode cX2_hasSample 30 = .ok (.if_icmp .ne 7, 3) := by decide +kernel
theorem dX2_hasSample_33 : decode cX2_hasSample 33 = .ok (.iconst 1, 1) := by decide +kernel
theorem dX2_hasSample_34 : decode cX2_hasSample 34 = .ok (.goto 4, 3) := by decide +kernel
theorem dX2_hasSample_37 : decode cX2_hasSample 37 = .ok (.iconst 0, 1) := by decide +kernel
theorem dX2_hasSample_38 : decode cX2_hasSample 38 = .ok (.ireturn, 1) := by decide +kernel
theorem dX2_hasWell_0 : decode cX2_hasWell 0 = .ok (.aload_n 0, 1) := by decide +kernel
theorem dX2_hasWell_1 : decode cX2_hasWell 1 = .ok (.getfield 9, 3) := by decide +kernel
theorem dX2_hasWell_4 : decode cX2_hasWell 4 = .ok (.iconst 1, 1) := by decide +kernel
theorem dX2_hasWell_5 : decode cX2_hasWell 5 = .ok (.if_icmp .eq 28, 3) := by decide +kernel
theorem dX2_hasWell_8 : decode cX2_hasWell 8 = .ok (.aload_n 0, 1) := by decide +kernel
theorem dX2_hasWell_9 : decode cX2_hasWell 9 = .ok (.getfield 9, 3) := by decide +kernel
theorem dX2_hasWell_12 : decode cX2_hasWell 12 = .ok (.iconst 2, 1) := by decide +kernel
theorem dX2_hasWell_13 : decode cX2_hasWell 13 = .ok (.if_icmp .eq 20, 3) := by decide +kernel
theorem dX2_hasWell_16 : decode cX2_hasWell 16 = .ok (.aload_n 0, 1) := by decide +kernel
theorem dX2_hasWell_17 : decode cX2_hasWell 17 = .ok (.getfield 9, 3) := by decide +kernel
theorem dX2_hasWell_20 : decode cX2_hasWell 20 = .ok (.iconst 3, 1) := by decide +kernel
theorem dX2_hasWell_21 : decode cX2_hasWell 21 = .ok (.if_icmp .eq 12, 3) := by decide +kernel
theorem dX2_hasWell_24 : decode cX2_hasWell 24 = .ok (.aload_n 0, 1) := by decide +kernel
theorem dX2_hasWell_25 : decode cX2_hasWell 25 = .ok (.getfield 9, 3) := by decide +kernel
theorem dX2_hasWell_28 : decode cX2_hasWell 28 = .ok (.bipush 6, 2) := by decide +kernel
theorem dX2_hasWell_30 : decode cX2_hasWell 30 = .ok (.if_icmp .ne 7, 3) := by decide +kernel
theorem dX2_hasWell_33 : decode cX2_hasWell 33 = .ok (.iconst 1, 1) := by decide +kernel
theorem dX2_hasWell_34 : decode cX2_hasWell 34 = .ok (.goto 4, 3) := by decide +kernel
theorem dX2_hasWell_37 : decode cX2_hasWell 37 = .ok (.iconst 0, 1) := by decide +kernel
theorem dX2_hasWell_38 : decode cX2_hasWell 38 = .ok (.ireturn, 1) := by decide +kernel
theorem dX2_hasVolume_0 : decode cX2_hasVolume 0 = .ok (.aload_n 0, 1) := by decide +kernel
theorem dX2_hasVolume_1 : decode cX2_hasVolume 1 = .ok (.getfield 9, 3) := by decide +kernel
theorem dX2_hasVolume_4 : decode cX2_hasVolume 4 = .ok (.iconst 1, 1) := by decide +kernel
theorem dX2_hasVolume_5 : decode cX2_hasVolume 5 = .ok (.if_icmp .eq 29, 3) := by decide +kernel
theorem dX2_hasVolume_8 : decode cX2_hasVolume 8 = .ok (.aload_n 0, 1) := by decide +kernel
theorem dX2_hasVolume_9 : decode cX2_hasVolume 9 = .ok (.getfield 9, 3) := by decide +kernel
theorem dX2_hasVolume_12 : decode cX2_hasVolume 12 = .ok (.iconst 2, 1) := by decide +kernel
theorem dX2_hasVolume_13 : decode cX2_hasVolume 13 = .ok (.if_icmp .eq 21, 3) := by decide +kernel
theorem dX2_hasVolume_16 : decode cX2_hasVolume 16 = .ok (.aload_n 0, 1) := by decide +kernel
theorem dX2_hasVolume_17 : decode cX2_hasVolume 17 = .ok (.getfield 9, 3) := by decide +kernel
theorem dX2_hasVolume_20 : decode cX2_hasVolume 20 = .ok (.bipush 6, 2) := by decide +kernel
theorem dX2_hasVolume_22 : decode cX2_hasVolume 22 = .ok (.if_icmp .eq 12, 3) := by decide +kernel
theorem dX2_hasVolume_25 : decode cX2_hasVolume 25 = .ok (.aload_n 0, 1) := by decide +kernel
theorem dX2_hasVolume_26 : decode cX2_hasVolume 26 = .ok (.getfield 9, 3) := by decide +kernel
theorem dX2_hasVolume_29 : decode cX2_hasVolume 29 = .ok (.bipush 7, 2) := by decide +kernel
theorem dX2_hasVolume_31 : decode cX2_hasVolume 31 = .ok (.if_icmp .ne 7, 3) := by decide +kernel
theorem dX2_hasVolume_34 : decode cX2_hasVolume 34 = .ok (.iconst 1, 1) := by decide +kernel
theorem dX2_hasVolume_35 : decode cX2_hasVolume 35 = .ok (.goto 4, 3) := by decide +kernel
theorem dX2_hasVolume_38 : decode cX2_hasVolume 38 = .ok (.iconst 0, 1) := by decide +kernel
theorem dX2_hasVolume_39 : decode cX2_hasVolume 39 = .ok (.ireturn, 1) := by decide +kernel
set_option maxRecDepth 20000 in
theorem ggX2_length_X2_hasSample : GoodIn wsX2_length wsX2_hasSample := goodIn_r _ [5, 6, 15, 16, 17, 18] (by decide +kernel) (by decide +kernel)
set_option maxRecDepth 20000 in
theorem gX2_length_X2_hasSample : GoodIn wsX2_length (wsV RX2 25 RX2 yX2_hasSample wsX2_hasSample) := goodIn_app (goodIn_of _ (by decide +kernel)) ggX2_length_X2_hasSample
set_option maxRecDepth 20000 in
theorem ggX2_length_X2_hasWell : GoodIn wsX2_length wsX2_hasWell := goodIn_r _ [10, 6, 15, 16, 17, 18] (by decide +kernel) (by decide +kernel)
set_option maxRecDepth 20000 in
theorem gX2_length_X2_hasWell : GoodIn wsX2_length (wsV RX2 29 RX2 yX2_hasWell wsX2_hasWell) := goodIn_app (goodIn_of _ (by decide +kernel)) ggX2_length_X2_hasWell
set_option maxRecDepth 20000 in
theorem ggX2_length_X2_hasVolume : GoodIn wsX2_length wsX2_hasVolume := goodIn_r _ [14, 6, 15, 16, 17, 18] (by decide +kernel) (by decide +kernel)
set_option maxRecDepth 20000 in
theorem gX2_length_X2_hasVolume : GoodIn wsX2_length (wsV RX2 32 RX2 yX2_hasVolume wsX2_hasVolume) := goodIn_app (goodIn_of _ (by decide +kernel)) ggX2_length_X2_hasVolume
theorem dX2_length_0 : decode cX2_length 0 = .ok (.bipush 8, 2) := by decide +kernel
theorem dX2_length_2 : decode cX2_length 2 = .ok (.aload_n 0, 1) := by decide +kernel
theorem dX2_length_3 : decode cX2_length 3 = .ok (.invokevirtual 25, 3) := by decide +kernel
theorem dX2_length_6 : decode cX2_length 6 = .ok (.ifCond .eq 7, 3) := by decide +kernel
theorem dX2_length_9 : decode cX2_length 9 = .ok (.iconst 2, 1) := by decide +kernel
theorem dX2_length_10 : decode cX2_length 10 = .ok (.goto 4, 3) := by decide +kernel
theorem dX2_length_13 : decode cX2_length 13 = .ok (.iconst 0, 1) := by decide +kernel
theorem dX2_length_14 : decode cX2_length 14 = .ok (.iadd, 1) := by decide +kernel
theorem dX2_length_15 : decode cX2_length 15 = .ok (.aload_n 0, 1) := by decide +kernel
theorem dX2_length_16 : decode cX2_length 16 = .ok (.invokevirtual 29, 3) := by decide +kernel
theorem dX2_length_19 : decode cX2_length 19 = .ok (.ifCond .eq 7, 3) := by decide +kernel
theorem dX2_length_22 : decode cX2_length 22 = .ok (.iconst 1, 1) := by decide +kernel
theorem dX2_length_23 : decode cX2_length 23 = .ok (.goto 4, 3) := by decide +kernel
theorem dX2_length_26 : decode cX2_length 26 = .ok (.iconst 0, 1) := by decide +kernel
theorem dX2_length_27 : decode cX2_length 27 = .ok (.iadd, 1) := by decide +kernel
theorem dX2_length_28 : decode cX2_length 28 = .ok (.aload_n 0, 1) := by decide +kernel
theorem dX2_length_29 : decode cX2_length 29 = .ok (.invokevirtual 32, 3) := by decide +kernel
theorem dX2_length_32 : decode cX2_length 32 = .ok (.ifCond .eq 8, 3) := by decide +kernel
theorem dX2_length_35 : decode cX2_length 35 = .ok (.bipush 8, 2) := by decide +kernel
theorem dX2_length_37 : decode cX2_length 37 = .ok (.goto 4, 3) := by decide +kernel
theorem dX2_length_40 : decode cX2_length 40 = .ok (.iconst 0, 1) := by decide +kernel
theorem dX2_length_41 : decode cX2_length 41 = .ok (.iadd, 1) := by decide +kernel
theorem dX2_length_42 : decode cX2_length 42 = .ok (.ireturn, 1) := by decide +kernel
set_option maxRecDepth 20000 in
theorem ggX2_readFrom_X0_at : GoodIn wsX2_readFrom wsX0_at := goodIn_r _ [9, 10, 33] (by decide +kernel) (by decide +kernel)
set_option maxRecDepth 20000 in
theorem gX2_readFrom_X0_at : GoodIn wsX2_readFrom (wsV RX2 35 RX0 yX0_at wsX0_at) := goodIn_app (goodIn_of _ (by decide +kernel)) ggX2_readFrom_X0_at
set_option maxRecDepth 20000 in
theorem ggX2_readFrom_X2_hasSample : GoodIn wsX2_readFrom wsX2_hasSample := goodIn_r _ [15, 1, 29, 30, 31, 32] (by decide +kernel) (by decide +kernel)
set_option maxRecDepth 20000 in
theorem gX2_readFrom_X2_hasSample : GoodIn wsX2_readFrom (wsV RX2 25 RX2 yX2_hasSample wsX2_hasSample) := goodIn_app (goodIn_of _ (by decide +kernel)) ggX2_readFrom_X2_hasSample
set_option maxRecDepth 20000 in
theorem ggX2_readFrom_X0_number : GoodIn wsX2_readFrom wsX0_number := goodIn_r _ [19, 20, 6, 7, 8, 9, 10, 33] (by decide +kernel) (by decide +kernel)
set_option maxRecDepth 20000 in
theorem gX2_readFrom_X0_number : GoodIn wsX2_readFrom (wsV RX2 41 RX0 yX0_number wsX0_number) := goodIn_app (goodIn_of _ (by decide +kernel)) ggX2_readFrom_X0_number
set_option maxRecDepth 20000 in
theorem ggX2_readFrom_X2_hasWell : GoodIn wsX2_readFrom wsX2_hasWell := goodIn_r _ [24, 1, 29, 30, 31, 32] (by decide +kernel) (by decide +kernel)
set_option maxRecDepth 20000 in
theorem gX2_readFrom_X2_hasWell : GoodIn wsX2_readFrom (wsV RX2 29 RX2 yX2_hasWell wsX2_hasWell) := goodIn_app (goodIn_of _ (by decide +kernel)) ggX2_readFrom_X2_hasWell
set_option maxRecDepth 20000 in
theorem ggX2_readFrom_X2_hasVolume : GoodIn wsX2_readFrom wsX2_hasVolume := goodIn_r _ [28, 1, 29, 30, 31, 32] (by decide +kernel) (by decide +kernel)
set_option maxRecDepth 20000 in
theorem gX2_readFrom_X2_hasVolume : GoodIn wsX2_readFrom (wsV RX2 32 RX2 yX2_hasVolume wsX2_hasVolume) := goodIn_app (goodIn_of _ (by decide +kernel)) ggX2_readFrom_X2_hasVolume
theorem dX2_readFrom_0 : decode cX2_readFrom 0 = .ok (.aload_n 0, 1) := by decide +kernel
theorem dX2_readFrom_1 : decode cX2_readFrom 1 = .ok (.aload_n 1, 1) := by decide +kernel
theorem dX2_readFrom_2 : decode cX2_readFrom 2 = .ok (.iload_n 2, 1) := by decide +kernel
theorem dX2_readFrom_3 : decode cX2_readFrom 3 = .ok (.iconst 2, 1) := by decide +kernel
theorem dX2_readFrom_4 : decode cX2_readFrom 4 = .ok (.iadd, 1) := by decide +kernel
theorem dX2_readFrom_5 : decode cX2_readFrom 5 = .ok (.invokevirtual 35, 3) := by decide +kernel
theorem dX2_readFrom_8 : decode cX2_readFrom 8 = .ok (.putfield 9, 3) := by decide +kernel
theorem dX2_readFrom_11 : decode cX2_readFrom 11 = .ok (.iload_n 2, 1) := by decide +kernel
theorem dX2_readFrom_12 : decode cX2_readFrom 12 = .ok (.iconst 3, 1) := by decide +kernel
theorem dX2_readFrom_13 : decode cX2_readFrom 13 = .ok (.iadd, 1) := by decide +kernel
theorem dX2_readFrom_14 : decode cX2_readFrom 14 = .ok (.istore_n 3, 1) := by decide +kernel
theorem dX2_readFrom_15 : decode cX2_readFrom 15 = .ok (.aload_n 0, 1) := by decide +kernel
theorem dX2_readFrom_16 : decode cX2_readFrom 16 = .ok (.aload_n 0, 1) := by decide +kernel
theorem dX2_readFrom_17 : decode cX2_readFrom 17 = .ok (.invokevirtual 25, 3) := by decide +kernel
theorem dX2_readFrom_20 : decode cX2_readFrom 20 = .ok (.ifCond .eq 13, 3) := by decide +kernel
theorem dX2_readFrom_23 : decode cX2_readFrom 23 = .ok (.aload_n 1, 1) := by decide +kernel
theorem dX2_readFrom_24 : decode cX2_readFrom 24 = .ok (.iload_n 3, 1) := by decide +kernel
theorem dX2_readFrom_25 : decode cX2_readFrom 25 = .ok (.iconst 2, 1) := by decide +kernel
theorem dX2_readFrom_26 : decode cX2_readFrom 26 = .ok (.invokevirtual 41, 3) := by decide +kernel
theorem dX2_readFrom_29 : decode cX2_readFrom 29 = .ok (.l2i, 1) := by decide +kernel
theorem dX2_readFrom_30 : decode cX2_readFrom 30 = .ok (.goto 4, 3) := by decide +kernel
theorem dX2_readFrom_33 : decode cX2_readFrom 33 = .ok (.iconst 0, 1) := by decide +kernel
theorem dX2_readFrom_34 : decode cX2_readFrom 34 = .ok (.putfield 15, 3) := by decide +kernel
theorem dX2_readFrom_37 : decode cX2_readFrom 37 = .ok (.iload_n 3, 1) := by decide +kernel
theorem dX2_readFrom_38 : decode cX2_readFrom 38 = .ok (.aload_n 0, 1) := by decide +kernel
theorem dX2_readFrom_39 : decode cX2_readFrom 39 = .ok (.invokevirtual 25, 3) := by decide +kernel
theorem dX2_readFrom_42 : decode cX2_readFrom 42 = .ok (.ifCond .eq 7, 3) := by decide +kernel
theorem dX2_readFrom_45 : decode cX2_readFrom 45 = .ok (.iconst 2, 1) := by decide +kernel
theorem dX2_readFrom_46 : decode cX2_readFrom 46 = .ok (.goto 4, 3) := by decide +kernel
theorem dX2_readFrom_49 : decode cX2_readFrom 49 = .ok (.iconst 0, 1) := by decide +kernel
theorem dX2_readFrom_50 : decode cX2_readFrom 50 = .ok (.iadd, 1) := by decide +kernel
theorem dX2_readFrom_51 : decode cX2_readFrom 51 = .ok (.istore_n 3, 1) := by decide +kernel
theorem dX2_readFrom_52 : decode cX2_readFrom 52 = .ok (.aload_n 0, 1) := by decide +kernel
theorem dX2_readFrom_53 : decode cX2_readFrom 53 = .ok (.aload_n 0, 1) := by decide +kernel
theorem dX2_readFrom_54 : decode cX2_readFrom 54 = .ok (.invokevirtual 29, 3) := by decide +kernel
theorem dX2_readFrom_57 : decode cX2_readFrom 57 = .ok (.ifCond .eq 11, 3) := by decide +kernel
theorem dX2_readFrom_60 : decode cX2_readFrom 60 = .ok (.aload_n 1, 1) := by decide +kernel
theorem dX2_readFrom_61 : decode cX2_readFrom 61 = .ok (.iload_n 3, 1) := by decide +kernel
theorem dX2_readFrom_62 : decode cX2_readFrom 62 = .ok (.invokevirtual 35, 3) := by decide +kernel
theorem dX2_readFrom_65 : decode cX2_readFrom 65 = .ok (.goto 4, 3) := by decide +kernel
theorem dX2_readFrom_68 : decode cX2_readFrom 68 = .ok (.iconst 0, 1) := by decide +kernel
theorem dX2_readFrom_69 : decode cX2_readFrom 69 = .ok (.putfield 18, 3) := by decide +kernel
theorem dX2_readFrom_72 : decode cX2_readFrom 72 = .ok (.iload_n 3, 1) := by decide +kernel
theorem dX2_readFrom_73 : decode cX2_readFrom 73 = .ok (.aload_n 0, 1) := by decide +kernel
theorem dX2_readFrom_74 : decode cX2_readFrom 74 = .ok (.invokevirtual 29, 3) := by decide +kernel
theorem dX2_readFrom_77 : decode cX2_readFrom 77 = .ok (.ifCond .eq 7, 3) := by decide +kernel
theorem dX2_readFrom_80 : decode cX2_readFrom 80 = .ok (.iconst 1, 1) := by decide +kernel
theorem dX2_readFrom_81 : decode cX2_readFrom 81 = .ok (.goto 4, 3) := by decide +kernel
theorem dX2_readFrom_84 : decode cX2_readFrom 84 = .ok (.iconst 0, 1) := by decide +kernel
theorem dX2_readFrom_85 : decode cX2_readFrom 85 = .ok (.iadd, 1) := by decide +kernel
theorem dX2_readFrom_86 : decode cX2_readFrom 86 = .ok (.istore_n 3, 1) := by decide +kernel
theorem dX2_readFrom_87 : decode cX2_readFrom 87 = .ok (.aload_n 0, 1) := by decide +kernel
theorem dX2_readFrom_88 : decode cX2_readFrom 88 = .ok (.aload_n 0, 1) := by decide +kernel
theorem dX2_readFrom_89 : decode cX2_readFrom 89 = .ok (.invokevirtual 32, 3) := by decide +kernel
theorem dX2_readFrom_92 : decode cX2_readFrom 92 = .ok (.ifCond .eq 13, 3) := by decide +kernel
theorem dX2_readFrom_95 : decode cX2_readFrom 95 = .ok (.aload_n 1, 1) := by decide +kernel
theorem dX2_readFrom_96 : decode cX2_readFrom 96 = .ok (.iload_n 3, 1) := by decide +kernel
theorem dX2_readFrom_97 : decode cX2_readFrom 97 = .ok (.bipush 8, 2) := by decide +kernel
theorem dX2_readFrom_99 : decode cX2_readFrom 99 = .ok (.invokevirtual 41, 3) := by decide +kernel
theorem dX2_readFrom_102 : decode cX2_readFrom 102 = .ok (.goto 4, 3) := by decide +kernel
theorem dX2_readFrom_105 : decode cX2_readFrom 105 = .ok (.lconst 0, 1) := by decide +kernel
theorem dX2_readFrom_106 : decode cX2_readFrom 106 = .ok (.putfield 21, 3) := by decide +kernel
theorem dX2_readFrom_109 : decode cX2_readFrom 109 = .ok (.return_, 1) := by decide +kernel
set_option maxRecDepth 20000 in
theorem ggX3_init_X0_init : GoodIn wsX3_init wsX0_init := goodIn_r _ [21, 22, 2, 3, 23, 24, 25, 26, 27, 28, 79] (by decide +kernel) (by decide +kernel)
set_option maxRecDepth 20000 in
theorem gX3_init_X0_init : GoodIn wsX3_init (wsX0_init) := ggX3_init_X0_init
set_option maxRecDepth 20000 in
theorem ggX3_init_X5_init : GoodIn wsX3_init wsX5_init := goodIn_r _ [31, 32, 2, 3, 33, 34, 35, 36, 80, 81, 82, 83] (by decide +kernel) (by decide +kernel)
set_option maxRecDepth 20000 in
theorem gX3_init_X5_init : GoodIn wsX3_init (wsX5_init) := ggX3_init_X5_init
set_option maxRecDepth 20000 in
theorem ggX3_init_X6_init : GoodIn wsX3_init wsX6_init := goodIn_r _ [38, 39, 2, 3, 40, 41, 42, 43, 44, 84, 85, 86, 87, 88] (by decide +kernel) (by decide +kernel)
set_option maxRecDepth 20000 in
theorem gX3_init_X6_init_n45 : GoodIn wsX3_init (wsX6_init) := ggX3_init_X6_init
set_option maxRecDepth 20000 in
theorem ggX3_init_X5_writeHead : GoodIn wsX3_init wsX5_writeHead := goodIn_r _ [48, 34, 49, 50, 51, 14, 52, 53, 54, 55, 56, 57, 58, 59, 60, 61, 35, 36, 33, 62, 63, 64, 18, 65, 40, 41, 42, 43, 44, 66, 67, 68, 9, 69, 28, 70, 71, 72, 80, 81, 82, 83, 84, 85, 86, 87, 88, 79] (by decide +kernel) (by decide +kernel)
set_option maxRecDepth 20000 in
theorem gX3_init_X5_writeHead : GoodIn wsX3_init (wsV RX3 46 RX5 yX5_writeHead wsX5_writeHead) := goodIn_app (goodIn_of _ (by decide +kernel)) ggX3_init_X5_writeHead
theorem dX3_init_0 : decode cX3_init 0 = .ok (.aload_n 0, 1) := by decide +kernel
theorem dX3_init_1 : decode cX3_init 1 = .ok (.invokespecial 3, 3) := by decide +kernel
theorem dX3_init_4 : decode cX3_init 4 = .ok (.aload_n 0, 1) := by decide +kernel
theorem dX3_init_5 : decode cX3_init 5 = .ok (.iconst 0, 1) := by decide +kernel
theorem dX3_init_6 : decode cX3_init 6 = .ok (.putfield 9, 3) := by decide +kernel
theorem dX3_init_9 : decode cX3_init 9 = .ok (.aload_n 0, 1) := by decide +kernel
theorem dX3_init_10 : decode cX3_init 10 = .ok (.bipush 9, 2) := by decide +kernel
theorem dX3_init_12 : decode cX3_init 12 = .ok (.putfield 15, 3) := by decide +kernel
theorem dX3_init_15 : decode cX3_init 15 = .ok (.aload_n 0, 1) := by decide +kernel
theorem dX3_init_16 : decode cX3_init 16 = .ok (.aload_n 2, 1) := by decide +kernel
theorem dX3_init_17 : decode cX3_init 17 = .ok (.putfield 18, 3) := by decide +kernel
theorem dX3_init_20 : decode cX3_init 20 = .ok (.aload_n 0, 1) := by decide +kernel
theorem dX3_init_21 : decode cX3_init 21 = .ok (.new 22, 3) := by decide +kernel
theorem dX3_init_24 : decode cX3_init 24 = .ok (.dup, 1) := by decide +kernel
theorem dX3_init_25 : decode cX3_init 25 = .ok (.iload_n 1, 1) := by decide +kernel
theorem dX3_init_26 : decode cX3_init 26 = .ok (.invokespecial 24, 3) := by decide +kernel
theorem dX3_init_29 : decode cX3_init 29 = .ok (.putfield 27, 3) := by decide +kernel
theorem dX3_init_32 : decode cX3_init 32 = .ok (.aload_n 0, 1) := by decide +kernel
theorem dX3_init_33 : decode cX3_init 33 = .ok (.new 22, 3) := by decide +kernel
theorem dX3_init_36 : decode cX3_init 36 = .ok (.dup, 1) := by decide +kernel
theorem dX3_init_37 : decode cX3_init 37 = .ok (.iload_n 1, 1) := by decide +kernel
theorem dX3_init_38 : decode cX3_init 38 = .ok (.invokespecial 24, 3) := by decide +kernel
theorem dX3_init_41 : decode cX3_init 41 = .ok (.putfield 31, 3) := by decide +kernel
theorem dX3_init_44 : decode cX3_init 44 = .ok (.aload_n 0, 1) := by decide +kernel
theorem dX3_init_45 : decode cX3_init 45 = .ok (.new 34, 3) := by decide +kernel
theorem dX3_init_48 : decode cX3_init 48 = .ok (.dup, 1) := by decide +kernel
theorem dX3_init_49 : decode cX3_init 49 = .ok (.aload_n 2, 1) := by decide +kernel
theorem dX3_init_50 : decode cX3_init 50 = .ok (.aload_n 0, 1) := by decide +kernel
theorem dX3_init_51 : decode cX3_init 51 = .ok (.getfield 27, 3) := by decide +kernel
theorem dX3_init_54 : decode cX3_init 54 = .ok (.invokespecial 36, 3) := by decide +kernel
theorem dX3_init_57 : decode cX3_init 57 = .ok (.putfield 39, 3) := by decide +kernel
theorem dX3_init_60 : decode cX3_init 60 = .ok (.new 34, 3) := by decide +kernel
theorem dX3_init_63 : decode cX3_init 63 = .ok (.dup, 1) := by decide +kernel
theorem dX3_init_64 : decode cX3_init 64 = .ok (.new 43, 3) := by decide +kernel
theorem dX3_init_67 : decode cX3_init 67 = .ok (.dup, 1) := by decide +kernel
theorem dX3_init_68 : decode cX3_init 68 = .ok (.invokespecial 45, 3) := by decide +kernel
theorem dX3_init_71 : decode cX3_init 71 = .ok (.aload_n 0, 1) := by decide +kernel
theorem dX3_init_72 : decode cX3_init 72 = .ok (.getfield 27, 3) := by decide +kernel
theorem dX3_init_75 : decode cX3_init 75 = .ok (.invokespecial 36, 3) := by decide +kernel
theorem dX3_init_78 : decode cX3_init 78 = .ok (.astore_n 3, 1) := by decide +kernel
theorem dX3_init_79 : decode cX3_init 79 = .ok (.aload_n 3, 1) := by decide +kernel
theorem dX3_init_80 : decode cX3_init 80 = .ok (.iconst 1, 1) := by decide +kernel
theorem dX3_init_81 : decode cX3_init 81 = .ok (.invokevirtual 46, 3) := by decide +kernel
theorem dX3_init_84 : decode cX3_init 84 = .ok (.return_, 1) := by decide +kernel
theorem dX3_bank_0 : decode cX3_bank 0 = .ok (.iload_n 1, 1) := by decide +kernel
theorem dX3_bank_1 : decode cX3_bank 1 = .ok (.ifCond .ne 10, 3) := by decide +kernel
theorem dX3_bank_4 : decode cX3_bank 4 = .ok (.aload_n 0, 1) := by decide +kernel
theorem dX3_bank_5 : decode cX3_bank 5 = .ok (.getfield 27, 3) := by decide +kernel
theorem dX3_bank_8 : decode cX3_bank 8 = .ok (.goto 7, 3) := by decide +kernel
theorem dX3_bank_11 : decode cX3_bank 11 = .ok (.aload_n 0, 1) := by decide +kernel
theorem dX3_bank_12 : decode cX3_bank 12 = .ok (.getfield 31, 3) := by decide +kernel
theorem dX3_bank_15 : decode cX3_bank 15 = .ok (.areturn, 1) := by decide +kernel
set_option maxRecDepth 20000 in
theorem ggX3_bankBytes_X0_size : GoodIn wsX3_bankBytes wsX0_size := goodIn_r _ [6, 7, 14] (by decide +kernel) (by decide +kernel)
set_option maxRecDepth 20000 in
theorem gX3_bankBytes_X0_size : GoodIn wsX3_bankBytes (wsV RX3 49 RX0 yX0_size wsX0_size) := goodIn_app (goodIn_of _ (by decide +kernel)) ggX3_bankBytes_X0_size
theorem dX3_bankBytes_0 : decode cX3_bankBytes 0 = .ok (.aload_n 0, 1) := by decide +kernel
theorem dX3_bankBytes_1 : decode cX3_bankBytes 1 = .ok (.getfield 27, 3) := by decide +kernel
theorem dX3_bankBytes_4 : decode cX3_bankBytes 4 = .ok (.invokevirtual 49, 3) := by decide +kernel
theorem dX3_bankBytes_7 : decode cX3_bankBytes 7 = .ok (.ireturn, 1) := by decide +kernel
theorem dX3_bankInUse_0 : decode cX3_bankInUse 0 = .ok (.aload_n 0, 1) := by decide +kernel
theorem dX3_bankInUse_1 : decode cX3_bankInUse 1 = .ok (.getfield 9, 3) := by decide +kernel
theorem dX3_bankInUse_4 : decode cX3_bankInUse 4 = .ok (.ireturn, 1) := by decide +kernel
set_option maxRecDepth 20000 in
theorem ggX3_generation_X3_bank : GoodIn wsX3_generation wsX3_bank := goodIn_r _ [6, 7, 8, 19, 20, 21, 22, 23, 24] (by decide +kernel) (by decide +kernel)
set_option maxRecDepth 20000 in
theorem gX3_generation_X3_bank : GoodIn wsX3_generation (wsV RX3 53 RX3 yX3_bank wsX3_bank) := goodIn_app (goodIn_of _ (by decide +kernel)) ggX3_generation_X3_bank
set_option maxRecDepth 20000 in
theorem ggX3_generation_X0_number : GoodIn wsX3_generation wsX0_number := goodIn_r _ [13, 14, 15, 16, 12, 17, 18, 25] (by decide +kernel) (by decide +kernel)
set_option maxRecDepth 20000 in
theorem gX3_generation_X0_number : GoodIn wsX3_generation (wsV RX3 57 RX0 yX0_number wsX0_number) := goodIn_app (goodIn_of _ (by decide +kernel)) ggX3_generation_X0_number
theorem dX3_generation_0 : decode cX3_generation 0 = .ok (.aload_n 0, 1) := by decide +kernel
theorem dX3_generation_1 : decode cX3_generation 1 = .ok (.aload_n 0, 1) := by decide +kernel
theorem dX3_generation_2 : decode cX3_generation 2 = .ok (.getfield 9, 3) := by decide +kernel
theorem dX3_generation_5 : decode cX3_generation 5 = .ok (.invokevirtual 53, 3) := by decide +kernel
theorem dX3_generation_8 : decode cX3_generation 8 = .ok (.iconst 0, 1) := by decide +kernel
theorem dX3_generation_9 : decode cX3_generation 9 = .ok (.iconst 4, 1) := by decide +kernel
theorem dX3_generation_10 : decode cX3_generation 10 = .ok (.invokevirtual 57, 3) := by decide +kernel
theorem dX3_generation_13 : decode cX3_generation 13 = .ok (.l2i, 1) := by decide +kernel
theorem dX3_generation_14 : decode cX3_generation 14 = .ok (.ireturn, 1) := by decide +kernel
theorem dX3_end_0 : decode cX3_end 0 = .ok (.aload_n 0, 1) := by decide +kernel
theorem dX3_end_1 : decode cX3_end 1 = .ok (.getfield 15, 3) := by decide +kernel
theorem dX3_end_4 : decode cX3_end 4 = .ok (.ireturn, 1) := by decide +kernel
set_option maxRecDepth 20000 in
theorem ggX3_hasRoomFor_X2_length : GoodIn wsX3_hasRoomFor wsX2_length := goodIn_r _ [6, 7, 8, 9, 5, 10, 11, 12, 13, 14, 15, 16, 17, 18, 19, 38, 39, 40, 41] (by decide +kernel) (by decide +kernel)
set_option maxRecDepth 20000 in
theorem gX3_hasRoomFor_X2_length : GoodIn wsX3_hasRoomFor (wsV RX3 61 RX2 yX2_length wsX2_length) := goodIn_app (goodIn_of _ (by decide +kernel)) ggX3_hasRoomFor_X2_length
set_option maxRecDepth 20000 in
theorem ggX3_hasRoomFor_X3_bankBytes : GoodIn wsX3_hasRoomFor wsX3_bankBytes := goodIn_r _ [24, 25, 26, 27, 28, 29, 30, 31, 32, 33, 34, 35, 36, 37, 42] (by decide +kernel) (by decide +kernel)
set_option maxRecDepth 20000 in
theorem gX3_hasRoomFor_X3_bankBytes : GoodIn wsX3_hasRoomFor (wsV RX3 66 RX3 yX3_bankBytes wsX3_bankBytes) := goodIn_app (goodIn_of _ (by decide +kernel)) ggX3_hasRoomFor_X3_bankBytes
theorem dX3_hasRoomFor_0 : decode cX3_hasRoomFor 0 = .ok (.aload_n 1, 1) := by decide +kernel
theorem dX3_hasRoomFor_1 : decode cX3_hasRoomFor 1 = .ok (.invokevirtual 61, 3) := by decide +kernel
theorem dX3_hasRoomFor_4 : decode cX3_hasRoomFor 4 = .ok (.aload_n 0, 1) := by decide +kernel
theorem dX3_hasRoomFor_5 : decode cX3_hasRoomFor 5 = .ok (.invokevirtual 66, 3) := by decide +kernel
theorem dX3_hasRoomFor_8 : decode cX3_hasRoomFor 8 = .ok (.aload_n 0, 1) := by decide +kernel
theorem dX3_hasRoomFor_9 : decode cX3_hasRoomFor 9 = .ok (.getfield 15, 3) := by decide +kernel
theorem dX3_hasRoomFor_12 : decode cX3_hasRoomFor 12 = .ok (.isub, 1) := by decide +kernel
theorem dX3_hasRoomFor_13 : decode cX3_hasRoomFor 13 = .ok (.if_icmp .gt 7, 3) := by decide +kernel
theorem dX3_hasRoomFor_16 : decode cX3_hasRoomFor 16 = .ok (.iconst 1, 1) := by decide +kernel
theorem dX3_hasRoomFor_17 : decode cX3_hasRoomFor 17 = .ok (.goto 4, 3) := by decide +kernel
theorem dX3_hasRoomFor_20 : decode cX3_hasRoomFor 20 = .ok (.iconst 0, 1) := by decide +kernel
theorem dX3_hasRoomFor_21 : decode cX3_hasRoomFor 21 = .ok (.ireturn, 1) := by decide +kernel
set_option maxRecDepth 20000 in
theorem ggX3_append_X3_bank : GoodIn wsX3_append wsX3_bank := goodIn_r _ [9, 10, 11, 86, 87, 88, 89, 90, 91] (by decide +kernel) (by decide +kernel)
set_option maxRecDepth 20000 in
theorem gX3_append_X3_bank : GoodIn wsX3_append (wsV RX3 53 RX3 yX3_bank wsX3_bank) := goodIn_app (goodIn_of _ (by decide +kernel)) ggX3_append_X3_bank
set_option maxRecDepth 20000 in
theorem ggX3_append_X5_goTo : GoodIn wsX3_append wsX5_goTo := goodIn_r _ [16, 17, 18, 92, 93, 94, 95] (by decide +kernel) (by decide +kernel)
set_option maxRecDepth 20000 in
theorem gX3_append_X5_goTo : GoodIn wsX3_append (wsV RX3 69 RX5 yX5_goTo wsX5_goTo) := goodIn_app (goodIn_of _ (by decide +kernel)) ggX3_append_X5_goTo
set_option maxRecDepth 20000 in
theorem ggX3_append_X5_writeRecord : GoodIn wsX3_append wsX5_writeRecord := goodIn_r _ [22, 23, 24, 25, 26, 27, 28, 29, 30, 31, 32, 33, 34, 35, 36, 37, 38, 39, 40, 41, 42, 43, 44, 15, 45, 46, 47, 48, 49, 50, 51, 52, 53, 54, 55, 17, 18, 56, 57, 58, 59, 60, 61, 62, 63, 64, 65, 66, 67, 68, 69, 70, 71, 72, 73, 74, 75, 76, 77, 92, 93, 94, 95, 96, 97, 98, 99, 100, 101, 102, 103, 104, 105] (by decide +kernel) (by decide +kernel)
set_option maxRecDepth 20000 in
theorem gX3_append_X5_writeRecord : GoodIn wsX3_append (wsV RX3 73 RX5 yX5_writeRecord wsX5_writeRecord) := goodIn_app (goodIn_of _ (by decide +kernel)) ggX3_append_X5_writeRecord
set_option maxRecDepth 20000 in
theorem ggX3_append_X6_isUp : GoodIn wsX3_append wsX6_isUp := goodIn_r _ [81, 61, 100, 101, 102, 103, 104] (by decide +kernel) (by decide +kernel)
set_option maxRecDepth 20000 in
theorem gX3_append_X6_isUp : GoodIn wsX3_append (wsV RX3 77 RX6 yX6_isUp wsX6_isUp) := goodIn_app (goodIn_of _ (by decide +kernel)) ggX3_append_X6_isUp
set_option maxRecDepth 20000 in
theorem ggX3_append_X5_position : GoodIn wsX3_append wsX5_position := goodIn_r _ [85, 18, 92, 93, 94, 95] (by decide +kernel) (by decide +kernel)
set_option maxRecDepth 20000 in
theorem gX3_append_X5_position : GoodIn wsX3_append (wsV RX3 81 RX5 yX5_position wsX5_position) := goodIn_app (goodIn_of _ (by decide +kernel)) ggX3_append_X5_position
theorem dX3_append_0 : decode cX3_append 0 = .ok (.aload_n 0, 1) := by decide +kernel
theorem dX3_append_1 : decode cX3_append 1 = .ok (.getfield 39, 3) := by decide +kernel
theorem dX3_append_4 : decode cX3_append 4 = .ok (.aload_n 0, 1) := by decide +kernel
theorem dX3_append_5 : decode cX3_append 5 = .ok (.aload_n 0, 1) := by decide +kernel
theorem dX3_append_6 : decode cX3_append 6 = .ok (.getfield 9, 3) := by decide +kernel
theorem dX3_append_9 : decode cX3_append 9 = .ok (.invokevirtual 53, 3) := by decide +kernel
theorem dX3_append_12 : decode cX3_append 12 = .ok (.aload_n 0, 1) := by decide +kernel
theorem dX3_append_13 : decode cX3_append 13 = .ok (.getfield 15, 3) := by decide +kernel
theorem dX3_append_16 : decode cX3_append 16 = .ok (.invokevirtual 69, 3) := by decide +kernel
theorem dX3_append_19 : decode cX3_append 19 = .ok (.aload_n 0, 1) := by decide +kernel
theorem dX3_append_20 : decode cX3_append 20 = .ok (.getfield 39, 3) := by decide +kernel
theorem dX3_append_23 : decode cX3_append 23 = .ok (.aload_n 1, 1) := by decide +kernel
theorem dX3_append_24 : decode cX3_append 24 = .ok (.invokevirtual 73, 3) := by decide +kernel
theorem dX3_append_27 : decode cX3_append 27 = .ok (.aload_n 0, 1) := by decide +kernel
theorem dX3_append_28 : decode cX3_append 28 = .ok (.getfield 18, 3) := by decide +kernel
theorem dX3_append_31 : decode cX3_append 31 = .ok (.invokevirtual 77, 3) := by decide +kernel
theorem dX3_append_34 : decode cX3_append 34 = .ok (.ifCond .ne 5, 3) := by decide +kernel
theorem dX3_append_37 : decode cX3_append 37 = .ok (.iconst 0, 1) := by decide +kernel
theorem dX3_append_38 : decode cX3_append 38 = .ok (.ireturn, 1) := by decide +kernel
theorem dX3_append_39 : decode cX3_append 39 = .ok (.aload_n 0, 1) := by decide +kernel
theorem dX3_append_40 : decode cX3_append 40 = .ok (.aload_n 0, 1) := by decide +kernel
theorem dX3_append_41 : decode cX3_append 41 = .ok (.getfield 39, 3) := by decide +kernel
theorem dX3_append_44 : decode cX3_append 44 = .ok (.invokevirtual 81, 3) := by decide +kernel
theorem dX3_append_47 : decode cX3_append 47 = .ok (.putfield 15, 3) := by decide +kernel
theorem dX3_append_50 : decode cX3_append 50 = .ok (.iconst 1, 1) := by decide +kernel
theorem dX3_append_51 : decode cX3_append 51 = .ok (.ireturn, 1) := by decide +kernel
set_option maxRecDepth 20000 in
theorem ggX3_otherBankHolds_X3_bankBytes : GoodIn wsX3_otherBankHolds wsX3_bankBytes := goodIn_r _ [5, 6, 7, 8, 9, 10, 11, 12, 13, 14, 15, 16, 17, 18, 19] (by decide +kernel) (by decide +kernel)
set_option maxRecDepth 20000 in
theorem gX3_otherBankHolds_X3_bankBytes : GoodIn wsX3_otherBankHolds (wsV RX3 66 RX3 yX3_bankBytes wsX3_bankBytes) := goodIn_app (goodIn_of _ (by decide +kernel)) ggX3_otherBankHolds_X3_bankBytes
theorem dX3_otherBankHolds_0 : decode cX3_otherBankHolds 0 = .ok (.bipush 25, 2) := by decide +kernel
theorem dX3_otherBankHolds_2 : decode cX3_otherBankHolds 2 = .ok (.iload_n 1, 1) := by decide +kernel
theorem dX3_otherBankHolds_3 : decode cX3_otherBankHolds 3 = .ok (.bipush 19, 2) := by decide +kernel
theorem dX3_otherBankHolds_5 : decode cX3_otherBankHolds 5 = .ok (.imul, 1) := by decide +kernel
theorem dX3_otherBankHolds_6 : decode cX3_otherBankHolds 6 = .ok (.iadd, 1) := by decide +kernel
theorem dX3_otherBankHolds_7 : decode cX3_otherBankHolds 7 = .ok (.aload_n 0, 1) := by decide +kernel
theorem dX3_otherBankHolds_8 : decode cX3_otherBankHolds 8 = .ok (.invokevirtual 66, 3) := by decide +kernel
theorem dX3_otherBankHolds_11 : decode cX3_otherBankHolds 11 = .ok (.if_icmp .gt 7, 3) := by decide +kernel
theorem dX3_otherBankHolds_14 : decode cX3_otherBankHolds 14 = .ok (.iconst 1, 1) := by decide +kernel
theorem dX3_otherBankHolds_15 : decode cX3_otherBankHolds 15 = .ok (.goto 4, 3) := by decide +kernel
theorem dX3_otherBankHolds_18 : decode cX3_otherBankHolds 18 = .ok (.iconst 0, 1) := by decide +kernel
theorem dX3_otherBankHolds_19 : decode cX3_otherBankHolds 19 = .ok (.ireturn, 1) := by decide +kernel
set_option maxRecDepth 20000 in
theorem ggX3_writeAnew_X3_bank : GoodIn wsX3_writeAnew wsX3_bank := goodIn_r _ [9, 10, 11, 153, 154, 155, 156, 157, 158] (by decide +kernel) (by decide +kernel)
set_option maxRecDepth 20000 in
theorem gX3_writeAnew_X3_bank : GoodIn wsX3_writeAnew (wsV RX3 53 RX3 yX3_bank wsX3_bank) := goodIn_app (goodIn_of _ (by decide +kernel)) ggX3_writeAnew_X3_bank
set_option maxRecDepth 20000 in
theorem ggX3_writeAnew_X5_goTo : GoodIn wsX3_writeAnew wsX5_goTo := goodIn_r _ [16, 17, 18, 159, 160, 161, 162] (by decide +kernel) (by decide +kernel)
set_option maxRecDepth 20000 in
theorem gX3_writeAnew_X5_goTo : GoodIn wsX3_writeAnew (wsV RX3 69 RX5 yX5_goTo wsX5_goTo) := goodIn_app (goodIn_of _ (by decide +kernel)) ggX3_writeAnew_X5_goTo
set_option maxRecDepth 20000 in
theorem ggX3_writeAnew_X0_size : GoodIn wsX3_writeAnew wsX0_size := goodIn_r _ [23, 24, 163] (by decide +kernel) (by decide +kernel)
set_option maxRecDepth 20000 in
theorem gX3_writeAnew_X0_size : GoodIn wsX3_writeAnew (wsV RX3 49 RX0 yX0_size wsX0_size) := goodIn_app (goodIn_of _ (by decide +kernel)) ggX3_writeAnew_X0_size
set_option maxRecDepth 20000 in
theorem ggX3_writeAnew_X5_writeZeros : GoodIn wsX3_writeAnew wsX5_writeZeros := goodIn_r _ [28, 29, 30, 31, 15, 32, 33, 17, 18, 34, 35, 36, 37, 38, 39, 40, 41, 42, 43, 44, 45, 46, 22, 47, 24, 159, 160, 161, 162, 164, 165, 166, 167, 168, 163] (by decide +kernel) (by decide +kernel)
set_option maxRecDepth 20000 in
theorem gX3_writeAnew_X5_writeZeros : GoodIn wsX3_writeAnew (wsV RX3 84 RX5 yX5_writeZeros wsX5_writeZeros) := goodIn_app (goodIn_of _ (by decide +kernel)) ggX3_writeAnew_X5_writeZeros
set_option maxRecDepth 20000 in
theorem ggX3_writeAnew_X7_lostVolume : GoodIn wsX3_writeAnew wsX7_lostVolume := goodIn_r _ [52, 53, 169, 170, 171, 172, 173, 174, 175] (by decide +kernel) (by decide +kernel)
set_option maxRecDepth 20000 in
theorem gX3_writeAnew_X7_lostVolume : GoodIn wsX3_writeAnew (wsV RX3 87 RX7 yX7_lostVolume wsX7_lostVolume) := goodIn_app (goodIn_of _ (by decide +kernel)) ggX3_writeAnew_X7_lostVolume
set_option maxRecDepth 20000 in
theorem ggX3_writeAnew_X2_set : GoodIn wsX3_writeAnew wsX2_set := goodIn_r _ [58, 59, 60, 61, 62, 176, 177, 178, 179] (by decide +kernel) (by decide +kernel)
set_option maxRecDepth 20000 in
theorem gX3_writeAnew_X2_set : GoodIn wsX3_writeAnew (wsV RX3 93 RX2 yX2_set wsX2_set) := goodIn_app (goodIn_of _ (by decide +kernel)) ggX3_writeAnew_X2_set
set_option maxRecDepth 20000 in
theorem ggX3_writeAnew_X5_writeRecord : GoodIn wsX3_writeAnew wsX5_writeRecord := goodIn_r _ [66, 67, 68, 69, 70, 57, 71, 72, 73, 74, 75, 59, 76, 77, 78, 79, 80, 81, 82, 83, 84, 85, 86, 15, 87, 88, 89, 90, 91, 92, 29, 30, 31, 32, 33, 17, 18, 34, 35, 36, 37, 38, 39, 40, 41, 42, 43, 44, 45, 46, 22, 47, 24, 93, 94, 95, 96, 97, 98, 159, 160, 161, 162, 176, 177, 178, 179, 164, 165, 166, 167, 168, 163] (by decide +kernel) (by decide +kernel)
set_option maxRecDepth 20000 in
theorem gX3_writeAnew_X5_writeRecord : GoodIn wsX3_writeAnew (wsV RX3 73 RX5 yX5_writeRecord wsX5_writeRecord) := goodIn_app (goodIn_of _ (by decide +kernel)) ggX3_writeAnew_X5_writeRecord
set_option maxRecDepth 20000 in
theorem ggX3_writeAnew_X7_sampleCount : GoodIn wsX3_writeAnew wsX7_sampleCount := goodIn_r _ [102, 103, 169, 170, 171, 172, 173, 174, 175] (by decide +kernel) (by decide +kernel)
set_option maxRecDepth 20000 in
theorem gX3_writeAnew_X7_sampleCount : GoodIn wsX3_writeAnew (wsV RX3 97 RX7 yX7_sampleCount wsX7_sampleCount) := goodIn_app (goodIn_of _ (by decide +kernel)) ggX3_writeAnew_X7_sampleCount
set_option maxRecDepth 20000 in
theorem ggX3_writeAnew_X7_isLive : GoodIn wsX3_writeAnew wsX7_isLive := goodIn_r _ [107, 108, 109, 110, 51, 111, 112, 113, 114, 115, 116, 103, 169, 170, 171, 172, 173, 174, 175] (by decide +kernel) (by decide +kernel)
set_option maxRecDepth 20000 in
theorem gX3_writeAnew_X7_isLive : GoodIn wsX3_writeAnew (wsV RX3 100 RX7 yX7_isLive wsX7_isLive) := goodIn_app (goodIn_of _ (by decide +kernel)) ggX3_writeAnew_X7_isLive
set_option maxRecDepth 20000 in
theorem ggX3_writeAnew_X7_wellOf : GoodIn wsX3_writeAnew wsX7_wellOf := goodIn_r _ [111, 112, 113, 114, 115, 51, 116, 103, 169, 170, 171, 172, 173, 174, 175] (by decide +kernel) (by decide +kernel)
set_option maxRecDepth 20000 in
theorem gX3_writeAnew_X7_wellOf : GoodIn wsX3_writeAnew (wsV RX3 104 RX7 yX7_wellOf wsX7_wellOf) := goodIn_app (goodIn_of _ (by decide +kernel)) ggX3_writeAnew_X7_wellOf
set_option maxRecDepth 20000 in
theorem ggX3_writeAnew_X7_parentOf : GoodIn wsX3_writeAnew wsX7_parentOf := goodIn_r _ [121, 122, 113, 114, 115, 51, 116, 103, 169, 170, 171, 172, 173, 174, 175] (by decide +kernel) (by decide +kernel)
set_option maxRecDepth 20000 in
theorem gX3_writeAnew_X7_parentOf : GoodIn wsX3_writeAnew (wsV RX3 108 RX7 yX7_parentOf wsX7_parentOf) := goodIn_app (goodIn_of _ (by decide +kernel)) ggX3_writeAnew_X7_parentOf
set_option maxRecDepth 20000 in
theorem ggX3_writeAnew_X7_volumeOf : GoodIn wsX3_writeAnew wsX7_volumeOf := goodIn_r _ [126, 127, 128, 113, 114, 115, 51, 116, 103, 169, 170, 171, 172, 173, 174, 175] (by decide +kernel) (by decide +kernel)
set_option maxRecDepth 20000 in
theorem gX3_writeAnew_X7_volumeOf : GoodIn wsX3_writeAnew (wsV RX3 111 RX7 yX7_volumeOf wsX7_volumeOf) := goodIn_app (goodIn_of _ (by decide +kernel)) ggX3_writeAnew_X7_volumeOf
set_option maxRecDepth 20000 in
theorem ggX3_writeAnew_X5_position : GoodIn wsX3_writeAnew wsX5_position := goodIn_r _ [132, 18, 159, 160, 161, 162] (by decide +kernel) (by decide +kernel)
set_option maxRecDepth 20000 in
theorem gX3_writeAnew_X5_position : GoodIn wsX3_writeAnew (wsV RX3 81 RX5 yX5_position wsX5_position) := goodIn_app (goodIn_of _ (by decide +kernel)) ggX3_writeAnew_X5_position
set_option maxRecDepth 20000 in
theorem ggX3_writeAnew_X3_generation : GoodIn wsX3_writeAnew wsX3_generation := goodIn_r _ [136, 1, 5, 6, 7, 8, 9, 10, 11, 137, 138, 139, 22, 140, 141, 142, 143, 144, 24, 153, 154, 155, 156, 157, 158, 163] (by decide +kernel) (by decide +kernel)
set_option maxRecDepth 20000 in
theorem gX3_writeAnew_X3_generation : GoodIn wsX3_writeAnew (wsV RX3 115 RX3 yX3_generation wsX3_generation) := goodIn_app (goodIn_of _ (by decide +kernel)) ggX3_writeAnew_X3_generation
set_option maxRecDepth 20000 in
theorem ggX3_writeAnew_X5_writeHead : GoodIn wsX3_writeAnew wsX5_writeHead := goodIn_r _ [148, 67, 84, 85, 86, 15, 87, 88, 89, 90, 91, 92, 29, 30, 31, 32, 33, 17, 18, 34, 35, 36, 37, 38, 39, 40, 41, 42, 43, 44, 45, 46, 22, 47, 24, 96, 97, 98, 159, 160, 161, 162, 164, 165, 166, 167, 168, 163] (by decide +kernel) (by decide +kernel)
set_option maxRecDepth 20000 in
theorem gX3_writeAnew_X5_writeHead : GoodIn wsX3_writeAnew (wsV RX3 46 RX5 yX5_writeHead wsX5_writeHead) := goodIn_app (goodIn_of _ (by decide +kernel)) ggX3_writeAnew_X5_writeHead
set_option maxRecDepth 20000 in
theorem ggX3_writeAnew_X6_isUp : GoodIn wsX3_writeAnew wsX6_isUp := goodIn_r _ [152, 39, 164, 165, 166, 167, 168] (by decide +kernel) (by decide +kernel)
set_option maxRecDepth 20000 in
theorem gX3_writeAnew_X6_isUp : GoodIn wsX3_writeAnew (wsV RX3 77 RX6 yX6_isUp wsX6_isUp) := goodIn_app (goodIn_of _ (by decide +kernel)) ggX3_writeAnew_X6_isUp
theorem dX3_writeAnew_0 : decode cX3_writeAnew 0 = .ok (.aload_n 0, 1) := by decide +kernel
theorem dX3_writeAnew_1 : decode cX3_writeAnew 1 = .ok (.iconst 1, 1) := by decide +kernel
theorem dX3_writeAnew_2 : decode cX3_writeAnew 2 = .ok (.aload_n 0, 1) := by decide +kernel
theorem dX3_writeAnew_3 : decode cX3_writeAnew 3 = .ok (.getfield 9, 3) := by decide +kernel
theorem dX3_writeAnew_6 : decode cX3_writeAnew 6 = .ok (.isub, 1) := by decide +kernel
theorem dX3_writeAnew_7 : decode cX3_writeAnew 7 = .ok (.invokevirtual 53, 3) := by decide +kernel
theorem dX3_writeAnew_10 : decode cX3_writeAnew 10 = .ok (.astore_n 3, 1) := by decide +kernel
theorem dX3_writeAnew_11 : decode cX3_writeAnew 11 = .ok (.aload_n 0, 1) := by decide +kernel
theorem dX3_writeAnew_12 : decode cX3_writeAnew 12 = .ok (.getfield 39, 3) := by decide +kernel
theorem dX3_writeAnew_15 : decode cX3_writeAnew 15 = .ok (.aload_n 3, 1) := by decide +kernel
theorem dX3_writeAnew_16 : decode cX3_writeAnew 16 = .ok (.iconst 0, 1) := by decide +kernel
theorem dX3_writeAnew_17 : decode cX3_writeAnew 17 = .ok (.invokevirtual 69, 3) := by decide +kernel
theorem dX3_writeAnew_20 : decode cX3_writeAnew 20 = .ok (.aload_n 0, 1) := by decide +kernel
theorem dX3_writeAnew_21 : decode cX3_writeAnew 21 = .ok (.getfield 39, 3) := by decide +kernel
theorem dX3_writeAnew_24 : decode cX3_writeAnew 24 = .ok (.aload_n 3, 1) := by decide +kernel
theorem dX3_writeAnew_25 : decode cX3_writeAnew 25 = .ok (.invokevirtual 49, 3) := by decide +kernel
theorem dX3_writeAnew_28 : decode cX3_writeAnew 28 = .ok (.invokevirtual 84, 3) := by decide +kernel
theorem dX3_writeAnew_31 : decode cX3_writeAnew 31 = .ok (.aload_n 0, 1) := by decide +kernel
theorem dX3_writeAnew_32 : decode cX3_writeAnew 32 = .ok (.getfield 39, 3) := by decide +kernel
theorem dX3_writeAnew_35 : decode cX3_writeAnew 35 = .ok (.aload_n 3, 1) := by decide +kernel
theorem dX3_writeAnew_36 : decode cX3_writeAnew 36 = .ok (.bipush 9, 2) := by decide +kernel
theorem dX3_writeAnew_38 : decode cX3_writeAnew 38 = .ok (.invokevirtual 69, 3) := by decide +kernel
theorem dX3_writeAnew_41 : decode cX3_writeAnew 41 = .ok (.aload_n 2, 1) := by decide +kernel
theorem dX3_writeAnew_42 : decode cX3_writeAnew 42 = .ok (.bipush 7, 2) := by decide +kernel
theorem dX3_writeAnew_44 : decode cX3_writeAnew 44 = .ok (.iconst 0, 1) := by decide +kernel
theorem dX3_writeAnew_45 : decode cX3_writeAnew 45 = .ok (.iconst 0, 1) := by decide +kernel
theorem dX3_writeAnew_46 : decode cX3_writeAnew 46 = .ok (.aload_n 1, 1) := by decide +kernel
theorem dX3_writeAnew_47 : decode cX3_writeAnew 47 = .ok (.invokevirtual 87, 3) := by decide +kernel
theorem dX3_writeAnew_50 : decode cX3_writeAnew 50 = .ok (.invokevirtual 93, 3) := by decide +kernel
theorem dX3_writeAnew_53 : decode cX3_writeAnew 53 = .ok (.aload_n 0, 1) := by decide +kernel
theorem dX3_writeAnew_54 : decode cX3_writeAnew 54 = .ok (.getfield 39, 3) := by decide +kernel
theorem dX3_writeAnew_57 : decode cX3_writeAnew 57 = .ok (.aload_n 2, 1) := by decide +kernel
theorem dX3_writeAnew_58 : decode cX3_writeAnew 58 = .ok (.invokevirtual 73, 3) := by decide +kernel
theorem dX3_writeAnew_61 : decode cX3_writeAnew 61 = .ok (.iconst 1, 1) := by decide +kernel
theorem dX3_writeAnew_62 : decode cX3_writeAnew 62 = .ok (.istore 4, 2) := by decide +kernel
theorem dX3_writeAnew_64 : decode cX3_writeAnew 64 = .ok (.iload 4, 2) := by decide +kernel
theorem dX3_writeAnew_66 : decode cX3_writeAnew 66 = .ok (.aload_n 1, 1) := by decide +kernel
theorem dX3_writeAnew_67 : decode cX3_writeAnew 67 = .ok (.invokevirtual 97, 3) := by decide +kernel
theorem dX3_writeAnew_70 : decode cX3_writeAnew 70 = .ok (.if_icmp .gt 60, 3) := by decide +kernel
theorem dX3_writeAnew_73 : decode cX3_writeAnew 73 = .ok (.aload_n 1, 1) := by decide +kernel
theorem dX3_writeAnew_74 : decode cX3_writeAnew 74 = .ok (.iload 4, 2) := by decide +kernel
theorem dX3_writeAnew_76 : decode cX3_writeAnew 76 = .ok (.invokevirtual 100, 3) := by decide +kernel
theorem dX3_writeAnew_79 : decode cX3_writeAnew 79 = .ok (.ifCond .eq 12, 3) := by decide +kernel
theorem dX3_writeAnew_82 : decode cX3_writeAnew 82 = .ok (.aload_n 1, 1) := by decide +kernel
theorem dX3_writeAnew_83 : decode cX3_writeAnew 83 = .ok (.iload 4, 2) := by decide +kernel
theorem dX3_writeAnew_85 : decode cX3_writeAnew 85 = .ok (.invokevirtual 104, 3) := by decide +kernel
theorem dX3_writeAnew_88 : decode cX3_writeAnew 88 = .ok (.goto 6, 3) := by decide +kernel
theorem dX3_writeAnew_91 : decode cX3_writeAnew 91 = .ok (.sipush 255, 3) := by decide +kernel
theorem dX3_writeAnew_94 : decode cX3_writeAnew 94 = .ok (.istore 5, 2) := by decide +kernel
theorem dX3_writeAnew_96 : decode cX3_writeAnew 96 = .ok (.aload_n 2, 1) := by decide +kernel
theorem dX3_writeAnew_97 : decode cX3_writeAnew 97 = .ok (.bipush 6, 2) := by decide +kernel
theorem dX3_writeAnew_99 : decode cX3_writeAnew 99 = .ok (.aload_n 1, 1) := by decide +kernel
theorem dX3_writeAnew_100 : decode cX3_writeAnew 100 = .ok (.iload 4, 2) := by decide +kernel
theorem dX3_writeAnew_102 : decode cX3_writeAnew 102 = .ok (.invokevirtual 108, 3) := by decide +kernel
theorem dX3_writeAnew_105 : decode cX3_writeAnew 105 = .ok (.iload 5, 2) := by decide +kernel
theorem dX3_writeAnew_107 : decode cX3_writeAnew 107 = .ok (.aload_n 1, 1) := by decide +kernel
theorem dX3_writeAnew_108 : decode cX3_writeAnew 108 = .ok (.iload 4, 2) := by decide +kernel
theorem dX3_writeAnew_110 : decode cX3_writeAnew 110 = .ok (.invokevirtual 111, 3) := by decide +kernel
theorem dX3_writeAnew_113 : decode cX3_writeAnew 113 = .ok (.invokevirtual 93, 3) := by decide +kernel
theorem dX3_writeAnew_116 : decode cX3_writeAnew 116 = .ok (.aload_n 0, 1) := by decide +kernel
theorem dX3_writeAnew_117 : decode cX3_writeAnew 117 = .ok (.getfield 39, 3) := by decide +kernel
theorem dX3_writeAnew_120 : decode cX3_writeAnew 120 = .ok (.aload_n 2, 1) := by decide +kernel
theorem dX3_writeAnew_121 : decode cX3_writeAnew 121 = .ok (.invokevirtual 73, 3) := by decide +kernel
theorem dX3_writeAnew_124 : decode cX3_writeAnew 124 = .ok (.iinc 4 1, 3) := by decide +kernel
theorem dX3_writeAnew_127 : decode cX3_writeAnew 127 = .ok (.goto (-63), 3) := by decide +kernel
theorem dX3_writeAnew_130 : decode cX3_writeAnew 130 = .ok (.aload_n 0, 1) := by decide +kernel
theorem dX3_writeAnew_131 : decode cX3_writeAnew 131 = .ok (.getfield 39, 3) := by decide +kernel
theorem dX3_writeAnew_134 : decode cX3_writeAnew 134 = .ok (.invokevirtual 81, 3) := by decide +kernel
theorem dX3_writeAnew_137 : decode cX3_writeAnew 137 = .ok (.istore 4, 2) := by decide +kernel
theorem dX3_writeAnew_139 : decode cX3_writeAnew 139 = .ok (.aload_n 0, 1) := by decide +kernel
theorem dX3_writeAnew_140 : decode cX3_writeAnew 140 = .ok (.getfield 39, 3) := by decide +kernel
theorem dX3_writeAnew_143 : decode cX3_writeAnew 143 = .ok (.aload_n 3, 1) := by decide +kernel
theorem dX3_writeAnew_144 : decode cX3_writeAnew 144 = .ok (.iconst 0, 1) := by decide +kernel
theorem dX3_writeAnew_145 : decode cX3_writeAnew 145 = .ok (.invokevirtual 69, 3) := by decide +kernel
theorem dX3_writeAnew_148 : decode cX3_writeAnew 148 = .ok (.aload_n 0, 1) := by decide +kernel
theorem dX3_writeAnew_149 : decode cX3_writeAnew 149 = .ok (.getfield 39, 3) := by decide +kernel
theorem dX3_writeAnew_152 : decode cX3_writeAnew 152 = .ok (.aload_n 0, 1) := by decide +kernel
theorem dX3_writeAnew_153 : decode cX3_writeAnew 153 = .ok (.invokevirtual 115, 3) := by decide +kernel
theorem dX3_writeAnew_156 : decode cX3_writeAnew 156 = .ok (.iconst 1, 1) := by decide +kernel
theorem dX3_writeAnew_157 : decode cX3_writeAnew 157 = .ok (.iadd, 1) := by decide +kernel
theorem dX3_writeAnew_158 : decode cX3_writeAnew 158 = .ok (.invokevirtual 46, 3) := by decide +kernel
theorem dX3_writeAnew_161 : decode cX3_writeAnew 161 = .ok (.aload_n 0, 1) := by decide +kernel
theorem dX3_writeAnew_162 : decode cX3_writeAnew 162 = .ok (.getfield 18, 3) := by decide +kernel
theorem dX3_writeAnew_165 : decode cX3_writeAnew 165 = .ok (.invokevirtual 77, 3) := by decide +kernel
theorem dX3_writeAnew_168 : decode cX3_writeAnew 168 = .ok (.ifCond .ne 5, 3) := by decide +kernel
theorem dX3_writeAnew_171 : decode cX3_writeAnew 171 = .ok (.iconst 0, 1) := by decide +kernel
theorem dX3_writeAnew_172 : decode cX3_writeAnew 172 = .ok (.ireturn, 1) := by decide +kernel
theorem dX3_writeAnew_173 : decode cX3_writeAnew 173 = .ok (.aload_n 0, 1) := by decide +kernel
theorem dX3_writeAnew_174 : decode cX3_writeAnew 174 = .ok (.iconst 1, 1) := by decide +kernel
theorem dX3_writeAnew_175 : decode cX3_writeAnew 175 = .ok (.aload_n 0, 1) := by decide +kernel
theorem dX3_writeAnew_176 : decode cX3_writeAnew 176 = .ok (.getfield 9, 3) := by decide +kernel
theorem dX3_writeAnew_179 : decode cX3_writeAnew 179 = .ok (.isub, 1) := by decide +kernel
theorem dX3_writeAnew_180 : decode cX3_writeAnew 180 = .ok (.putfield 9, 3) := by decide +kernel
theorem dX3_writeAnew_183 : decode cX3_writeAnew 183 = .ok (.aload_n 0, 1) := by decide +kernel
theorem dX3_writeAnew_184 : decode cX3_writeAnew 184 = .ok (.iload 4, 2) := by decide +kernel
theorem dX3_writeAnew_186 : decode cX3_writeAnew 186 = .ok (.putfield 15, 3) := by decide +kernel
theorem dX3_writeAnew_189 : decode cX3_writeAnew 189 = .ok (.iconst 1, 1) := by decide +kernel
theorem dX3_writeAnew_190 : decode cX3_writeAnew 190 = .ok (.ireturn, 1) := by decide +kernel
set_option maxRecDepth 20000 in
theorem ggX3_chooseBank_X0_hasRightHead : GoodIn wsX3_chooseBank wsX0_hasRightHead := goodIn_r _ [9, 10, 11, 12, 8, 13, 14, 15, 16, 17, 18, 19, 20, 21, 22, 23, 24, 25, 26, 27, 28, 29, 30, 38] (by decide +kernel) (by decide +kernel)
set_option maxRecDepth 20000 in
theorem gX3_chooseBank_X0_hasRightHead : GoodIn wsX3_chooseBank (wsV RX3 118 RX0 yX0_hasRightHead wsX0_hasRightHead) := goodIn_app (goodIn_of _ (by decide +kernel)) ggX3_chooseBank_X0_hasRightHead
set_option maxRecDepth 20000 in
theorem ggX3_chooseBank_X0_number : GoodIn wsX3_chooseBank wsX0_number := goodIn_r _ [27, 14, 15, 16, 8, 17, 18, 38] (by decide +kernel) (by decide +kernel)
set_option maxRecDepth 20000 in
theorem gX3_chooseBank_X0_number : GoodIn wsX3_chooseBank (wsV RX3 57 RX0 yX0_number wsX0_number) := goodIn_app (goodIn_of _ (by decide +kernel)) ggX3_chooseBank_X0_number
theorem dX3_chooseBank_0 : decode cX3_chooseBank 0 = .ok (.aload_n 0, 1) := by decide +kernel
theorem dX3_chooseBank_1 : decode cX3_chooseBank 1 = .ok (.getfield 27, 3) := by decide +kernel
theorem dX3_chooseBank_4 : decode cX3_chooseBank 4 = .ok (.invokevirtual 118, 3) := by decide +kernel
theorem dX3_chooseBank_7 : decode cX3_chooseBank 7 = .ok (.istore_n 1, 1) := by decide +kernel
theorem dX3_chooseBank_8 : decode cX3_chooseBank 8 = .ok (.aload_n 0, 1) := by decide +kernel
theorem dX3_chooseBank_9 : decode cX3_chooseBank 9 = .ok (.getfield 31, 3) := by decide +kernel
theorem dX3_chooseBank_12 : decode cX3_chooseBank 12 = .ok (.invokevirtual 118, 3) := by decide +kernel
theorem dX3_chooseBank_15 : decode cX3_chooseBank 15 = .ok (.istore_n 2, 1) := by decide +kernel
theorem dX3_chooseBank_16 : decode cX3_chooseBank 16 = .ok (.aload_n 0, 1) := by decide +kernel
theorem dX3_chooseBank_17 : decode cX3_chooseBank 17 = .ok (.getfield 31, 3) := by decide +kernel
theorem dX3_chooseBank_20 : decode cX3_chooseBank 20 = .ok (.iconst 0, 1) := by decide +kernel
theorem dX3_chooseBank_21 : decode cX3_chooseBank 21 = .ok (.iconst 4, 1) := by decide +kernel
theorem dX3_chooseBank_22 : decode cX3_chooseBank 22 = .ok (.invokevirtual 57, 3) := by decide +kernel
theorem dX3_chooseBank_25 : decode cX3_chooseBank 25 = .ok (.aload_n 0, 1) := by decide +kernel
theorem dX3_chooseBank_26 : decode cX3_chooseBank 26 = .ok (.getfield 27, 3) := by decide +kernel
theorem dX3_chooseBank_29 : decode cX3_chooseBank 29 = .ok (.iconst 0, 1) := by decide +kernel
theorem dX3_chooseBank_30 : decode cX3_chooseBank 30 = .ok (.iconst 4, 1) := by decide +kernel
theorem dX3_chooseBank_31 : decode cX3_chooseBank 31 = .ok (.invokevirtual 57, 3) := by decide +kernel
theorem dX3_chooseBank_34 : decode cX3_chooseBank 34 = .ok (.lcmp, 1) := by decide +kernel
theorem dX3_chooseBank_35 : decode cX3_chooseBank 35 = .ok (.ifCond .le 7, 3) := by decide +kernel
theorem dX3_chooseBank_38 : decode cX3_chooseBank 38 = .ok (.iconst 1, 1) := by decide +kernel
theorem dX3_chooseBank_39 : decode cX3_chooseBank 39 = .ok (.goto 4, 3) := by decide +kernel
theorem dX3_chooseBank_42 : decode cX3_chooseBank 42 = .ok (.iconst 0, 1) := by decide +kernel
theorem dX3_chooseBank_43 : decode cX3_chooseBank 43 = .ok (.istore_n 3, 1) := by decide +kernel
theorem dX3_chooseBank_44 : decode cX3_chooseBank 44 = .ok (.aload_n 0, 1) := by decide +kernel
theorem dX3_chooseBank_45 : decode cX3_chooseBank 45 = .ok (.iload_n 2, 1) := by decide +kernel
theorem dX3_chooseBank_46 : decode cX3_chooseBank 46 = .ok (.ifCond .eq 15, 3) := by decide +kernel
theorem dX3_chooseBank_49 : decode cX3_chooseBank 49 = .ok (.iload_n 3, 1) := by decide +kernel
theorem dX3_chooseBank_50 : decode cX3_chooseBank 50 = .ok (.ifCond .ne 7, 3) := by decide +kernel
theorem dX3_chooseBank_53 : decode cX3_chooseBank 53 = .ok (.iload_n 1, 1) := by decide +kernel
theorem dX3_chooseBank_54 : decode cX3_chooseBank 54 = .ok (.ifCond .ne 7, 3) := by decide +kernel
theorem dX3_chooseBank_57 : decode cX3_chooseBank 57 = .ok (.iconst 1, 1) := by decide +kernel
theorem dX3_chooseBank_58 : decode cX3_chooseBank 58 = .ok (.goto 4, 3) := by decide +kernel
theorem dX3_chooseBank_61 : decode cX3_chooseBank 61 = .ok (.iconst 0, 1) := by decide +kernel
theorem dX3_chooseBank_62 : decode cX3_chooseBank 62 = .ok (.putfield 9, 3) := by decide +kernel
theorem dX3_chooseBank_65 : decode cX3_chooseBank 65 = .ok (.aload_n 0, 1) := by decide +kernel
theorem dX3_chooseBank_66 : decode cX3_chooseBank 66 = .ok (.bipush 9, 2) := by decide +kernel
theorem dX3_chooseBank_68 : decode cX3_chooseBank 68 = .ok (.putfield 15, 3) := by decide +kernel
theorem dX3_chooseBank_71 : decode cX3_chooseBank 71 = .ok (.return_, 1) := by decide +kernel
set_option maxRecDepth 20000 in
theorem ggX3_readNext_X3_bank : GoodIn wsX3_readNext wsX3_bank := goodIn_r _ [7, 8, 9, 59, 60, 61, 62, 63, 64] (by decide +kernel) (by decide +kernel)
set_option maxRecDepth 20000 in
theorem gX3_readNext_X3_bank : GoodIn wsX3_readNext (wsV RX3 53 RX3 yX3_bank wsX3_bank) := goodIn_app (goodIn_of _ (by decide +kernel)) ggX3_readNext_X3_bank
set_option maxRecDepth 20000 in
theorem ggX3_readNext_X0_wholeRecordAt : GoodIn wsX3_readNext wsX0_wholeRecordAt := goodIn_r _ [14, 15, 16, 17, 18, 13, 19, 20, 21, 22, 23, 24, 25, 26, 27, 28, 29, 30, 31, 32, 33, 34, 35, 65] (by decide +kernel) (by decide +kernel)
set_option maxRecDepth 20000 in
theorem gX3_readNext_X0_wholeRecordAt : GoodIn wsX3_readNext (wsV RX3 121 RX0 yX0_wholeRecordAt wsX0_wholeRecordAt) := goodIn_app (goodIn_of _ (by decide +kernel)) ggX3_readNext_X0_wholeRecordAt
set_option maxRecDepth 20000 in
theorem ggX3_readNext_X2_readFrom : GoodIn wsX3_readNext wsX2_readFrom := goodIn_r _ [40, 41, 42, 43, 44, 45, 21, 22, 13, 23, 15, 46, 47, 48, 39, 49, 50, 17, 18, 19, 20, 51, 52, 53, 54, 55, 56, 57, 58, 66, 67, 68, 69, 65] (by decide +kernel) (by decide +kernel)
set_option maxRecDepth 20000 in
theorem gX3_readNext_X2_readFrom : GoodIn wsX3_readNext (wsV RX3 124 RX2 yX2_readFrom wsX2_readFrom) := goodIn_app (goodIn_of _ (by decide +kernel)) ggX3_readNext_X2_readFrom
theorem dX3_readNext_0 : decode cX3_readNext 0 = .ok (.aload_n 0, 1) := by decide +kernel
theorem dX3_readNext_1 : decode cX3_readNext 1 = .ok (.aload_n 0, 1) := by decide +kernel
theorem dX3_readNext_2 : decode cX3_readNext 2 = .ok (.getfield 9, 3) := by decide +kernel
theorem dX3_readNext_5 : decode cX3_readNext 5 = .ok (.invokevirtual 53, 3) := by decide +kernel
theorem dX3_readNext_8 : decode cX3_readNext 8 = .ok (.aload_n 0, 1) := by decide +kernel
theorem dX3_readNext_9 : decode cX3_readNext 9 = .ok (.getfield 15, 3) := by decide +kernel
theorem dX3_readNext_12 : decode cX3_readNext 12 = .ok (.invokevirtual 121, 3) := by decide +kernel
theorem dX3_readNext_15 : decode cX3_readNext 15 = .ok (.istore_n 2, 1) := by decide +kernel
theorem dX3_readNext_16 : decode cX3_readNext 16 = .ok (.iload_n 2, 1) := by decide +kernel
theorem dX3_readNext_17 : decode cX3_readNext 17 = .ok (.ifCond .ne 5, 3) := by decide +kernel
theorem dX3_readNext_20 : decode cX3_readNext 20 = .ok (.iconst 0, 1) := by decide +kernel
theorem dX3_readNext_21 : decode cX3_readNext 21 = .ok (.ireturn, 1) := by decide +kernel
theorem dX3_readNext_22 : decode cX3_readNext 22 = .ok (.aload_n 1, 1) := by decide +kernel
theorem dX3_readNext_23 : decode cX3_readNext 23 = .ok (.aload_n 0, 1) := by decide +kernel
theorem dX3_readNext_24 : decode cX3_readNext 24 = .ok (.aload_n 0, 1) := by decide +kernel
theorem dX3_readNext_25 : decode cX3_readNext 25 = .ok (.getfield 9, 3) := by decide +kernel
theorem dX3_readNext_28 : decode cX3_readNext 28 = .ok (.invokevirtual 53, 3) := by decide +kernel
theorem dX3_readNext_31 : decode cX3_readNext 31 = .ok (.aload_n 0, 1) := by decide +kernel
theorem dX3_readNext_32 : decode cX3_readNext 32 = .ok (.getfield 15, 3) := by decide +kernel
theorem dX3_readNext_35 : decode cX3_readNext 35 = .ok (.invokevirtual 124, 3) := by decide +kernel
theorem dX3_readNext_38 : decode cX3_readNext 38 = .ok (.aload_n 0, 1) := by decide +kernel
theorem dX3_readNext_39 : decode cX3_readNext 39 = .ok (.dup, 1) := by decide +kernel
theorem dX3_readNext_40 : decode cX3_readNext 40 = .ok (.getfield 15, 3) := by decide +kernel
theorem dX3_readNext_43 : decode cX3_readNext 43 = .ok (.iload_n 2, 1) := by decide +kernel
theorem dX3_readNext_44 : decode cX3_readNext 44 = .ok (.iadd, 1) := by decide +kernel
theorem dX3_readNext_45 : decode cX3_readNext 45 = .ok (.putfield 15, 3) := by decide +kernel
theorem dX3_readNext_48 : decode cX3_readNext 48 = .ok (.iconst 1, 1) := by decide +kernel
theorem dX3_readNext_49 : decode cX3_readNext 49 = .ok (.ireturn, 1) := by decide +kernel
set_option maxRecDepth 20000 in
theorem ggX3_blankTheRest_X3_bank : GoodIn wsX3_blankTheRest wsX3_bank := goodIn_r _ [7, 8, 9, 20, 21, 22, 23, 24, 25] (by decide +kernel) (by decide +kernel)
set_option maxRecDepth 20000 in
theorem gX3_blankTheRest_X3_bank : GoodIn wsX3_blankTheRest (wsV RX3 53 RX3 yX3_bank wsX3_bank) := goodIn_app (goodIn_of _ (by decide +kernel)) ggX3_blankTheRest_X3_bank
set_option maxRecDepth 20000 in
theorem ggX3_blankTheRest_X0_blankFrom : GoodIn wsX3_blankTheRest wsX0_blankFrom := goodIn_r _ [14, 15, 16, 17, 18, 19, 26] (by decide +kernel) (by decide +kernel)
set_option maxRecDepth 20000 in
theorem gX3_blankTheRest_X0_blankFrom : GoodIn wsX3_blankTheRest (wsV RX3 127 RX0 yX0_blankFrom wsX0_blankFrom) := goodIn_app (goodIn_of _ (by decide +kernel)) ggX3_blankTheRest_X0_blankFrom
theorem dX3_blankTheRest_0 : decode cX3_blankTheRest 0 = .ok (.aload_n 0, 1) := by decide +kernel
theorem dX3_blankTheRest_1 : decode cX3_blankTheRest 1 = .ok (.aload_n 0, 1) := by decide +kernel
theorem dX3_blankTheRest_2 : decode cX3_blankTheRest 2 = .ok (.getfield 9, 3) := by decide +kernel
theorem dX3_blankTheRest_5 : decode cX3_blankTheRest 5 = .ok (.invokevirtual 53, 3) := by decide +kernel
theorem dX3_blankTheRest_8 : decode cX3_blankTheRest 8 = .ok (.aload_n 0, 1) := by decide +kernel
theorem dX3_blankTheRest_9 : decode cX3_blankTheRest 9 = .ok (.getfield 15, 3) := by decide +kernel
theorem dX3_blankTheRest_12 : decode cX3_blankTheRest 12 = .ok (.invokevirtual 127, 3) := by decide +kernel
theorem dX3_blankTheRest_15 : decode cX3_blankTheRest 15 = .ok (.return_, 1) := by decide +kernel
theorem dX4_init_0 : decode cX4_init 0 = .ok (.aload_n 0, 1) := by decide +kernel
theorem dX4_init_1 : decode cX4_init 1 = .ok (.invokespecial 3, 3) := by decide +kernel
theorem dX4_init_4 : decode cX4_init 4 = .ok (.aload_n 0, 1) := by decide +kernel
theorem dX4_init_5 : decode cX4_init 5 = .ok (.sipush 256, 3) := by decide +kernel
theorem dX4_init_8 : decode cX4_init 8 = .ok (.newarray .int, 2) := by decide +kernel
theorem dX4_init_10 : decode cX4_init 10 = .ok (.putfield 9, 3) := by decide +kernel
theorem dX4_init_13 : decode cX4_init 13 = .ok (.aload_n 0, 1) := by decide +kernel
theorem dX4_init_14 : decode cX4_init 14 = .ok (.sipush 256, 3) := by decide +kernel
theorem dX4_init_17 : decode cX4_init 17 = .ok (.newarray .long, 2) := by decide +kernel
theorem dX4_init_19 : decode cX4_init 19 = .ok (.putfield 15, 3) := by decide +kernel
theorem dX4_init_22 : decode cX4_init 22 = .ok (.aload_n 0, 1) := by decide +kernel
theorem dX4_init_23 : decode cX4_init 23 = .ok (.sipush 256, 3) := by decide +kernel
theorem dX4_init_26 : decode cX4_init 26 = .ok (.newarray .int, 2) := by decide +kernel
theorem dX4_init_28 : decode cX4_init 28 = .ok (.putfield 19, 3) := by decide +kernel
theorem dX4_init_31 : decode cX4_init 31 = .ok (.aload_n 0, 1) := by decide +kernel
theorem dX4_init_32 : decode cX4_init 32 = .ok (.sipush 256, 3) := by decide +kernel
theorem dX4_init_35 : decode cX4_init 35 = .ok (.newarray .int, 2) := by decide +kernel
theorem dX4_init_37 : decode cX4_init 37 = .ok (.putfield 22, 3) := by decide +kernel
theorem dX4_init_40 : decode cX4_init 40 = .ok (.aload_n 0, 1) := by decide +kernel
theorem dX4_init_41 : decode cX4_init 41 = .ok (.sipush 256, 3) := by decide +kernel
theorem dX4_init_44 : decode cX4_init 44 = .ok (.newarray .long, 2) := by decide +kernel
theorem dX4_init_46 : decode cX4_init 46 = .ok (.putfield 25, 3) := by decide +kernel
theorem dX4_init_49 : decode cX4_init 49 = .ok (.aload_n 0, 1) := by decide +kernel
theorem dX4_init_50 : decode cX4_init 50 = .ok (.iconst 0, 1) := by decide +kernel
theorem dX4_init_51 : decode cX4_init 51 = .ok (.putfield 28, 3) := by decide +kernel
theorem dX4_init_54 : decode cX4_init 54 = .ok (.return_, 1) := by decide +kernel
theorem dX4_size_0 : decode cX4_size 0 = .ok (.aload_n 0, 1) := by decide +kernel
theorem dX4_size_1 : decode cX4_size 1 = .ok (.getfield 28, 3) := by decide +kernel
theorem dX4_size_4 : decode cX4_size 4 = .ok (.ireturn, 1) := by decide +kernel
theorem dX4_forget_0 : decode cX4_forget 0 = .ok (.aload_n 0, 1) := by decide +kernel
theorem dX4_forget_1 : decode cX4_forget 1 = .ok (.iconst 0, 1) := by decide +kernel
theorem dX4_forget_2 : decode cX4_forget 2 = .ok (.putfield 28, 3) := by decide +kernel
theorem dX4_forget_5 : decode cX4_forget 5 = .ok (.return_, 1) := by decide +kernel
theorem dX4_add_0 : decode cX4_add 0 = .ok (.aload_n 0, 1) := by decide +kernel
theorem dX4_add_1 : decode cX4_add 1 = .ok (.getfield 28, 3) := by decide +kernel
theorem dX4_add_4 : decode cX4_add 4 = .ok (.sipush 256, 3) := by decide +kernel
theorem dX4_add_7 : decode cX4_add 7 = .ok (.if_icmp .ge 66, 3) := by decide +kernel
theorem dX4_add_10 : decode cX4_add 10 = .ok (.aload_n 0, 1) := by decide +kernel
theorem dX4_add_11 : decode cX4_add 11 = .ok (.getfield 9, 3) := by decide +kernel
theorem dX4_add_14 : decode cX4_add 14 = .ok (.aload_n 0, 1) := by decide +kernel
theorem dX4_add_15 : decode cX4_add 15 = .ok (.getfield 28, 3) := by decide +kernel
theorem dX4_add_18 : decode cX4_add 18 = .ok (.iload_n 1, 1) := by decide +kernel
theorem dX4_add_19 : decode cX4_add 19 = .ok (.iastore, 1) := by decide +kernel
theorem dX4_add_20 : decode cX4_add 20 = .ok (.aload_n 0, 1) := by decide +kernel
theorem dX4_add_21 : decode cX4_add 21 = .ok (.getfield 15, 3) := by decide +kernel
theorem dX4_add_24 : decode cX4_add 24 = .ok (.aload_n 0, 1) := by decide +kernel
theorem dX4_add_25 : decode cX4_add 25 = .ok (.getfield 28, 3) := by decide +kernel
theorem dX4_add_28 : decode cX4_add 28 = .ok (.lload_n 2, 1) := by decide +kernel
theorem dX4_add_29 : decode cX4_add 29 = .ok (.lastore, 1) := by decide +kernel
theorem dX4_add_30 : decode cX4_add 30 = .ok (.aload_n 0, 1) := by decide +kernel
theorem dX4_add_31 : decode cX4_add 31 = .ok (.getfield 19, 3) := by decide +kernel
theorem dX4_add_34 : decode cX4_add 34 = .ok (.aload_n 0, 1) := by decide +kernel
theorem dX4_add_35 : decode cX4_add 35 = .ok (.getfield 28, 3) := by decide +kernel
theorem dX4_add_38 : decode cX4_add 38 = .ok (.iload 4, 2) := by decide +kernel
theorem dX4_add_40 : decode cX4_add 40 = .ok (.iastore, 1) := by decide +kernel
theorem dX4_add_41 : decode cX4_add 41 = .ok (.aload_n 0, 1) := by decide +kernel
theorem dX4_add_42 : decode cX4_add 42 = .ok (.getfield 22, 3) := by decide +kernel
theorem dX4_add_45 : decode cX4_add 45 = .ok (.aload_n 0, 1) := by decide +kernel
theorem dX4_add_46 : decode cX4_add 46 = .ok (.getfield 28, 3) := by decide +kernel
theorem dX4_add_49 : decode cX4_add 49 = .ok (.iload 5, 2) := by decide +kernel
theorem dX4_add_51 : decode cX4_add 51 = .ok (.iastore, 1) := by decide +kernel
theorem dX4_add_52 : decode cX4_add 52 = .ok (.aload_n 0, 1) := by decide +kernel
theorem dX4_add_53 : decode cX4_add 53 = .ok (.getfield 25, 3) := by decide +kernel
theorem dX4_add_56 : decode cX4_add 56 = .ok (.aload_n 0, 1) := by decide +kernel
theorem dX4_add_57 : decode cX4_add 57 = .ok (.getfield 28, 3) := by decide +kernel
theorem dX4_add_60 : decode cX4_add 60 = .ok (.lload 6, 2) := by decide +kernel
theorem dX4_add_62 : decode cX4_add 62 = .ok (.lastore, 1) := by decide +kernel
theorem dX4_add_63 : decode cX4_add 63 = .ok (.aload_n 0, 1) := by decide +kernel
theorem dX4_add_64 : decode cX4_add 64 = .ok (.dup, 1) := by decide +kernel
theorem dX4_add_65 : decode cX4_add 65 = .ok (.getfield 28, 3) := by decide +kernel
theorem dX4_add_68 : decode cX4_add 68 = .ok (.iconst 1, 1) := by decide +kernel
theorem dX4_add_69 : decode cX4_add 69 = .ok (.iadd, 1) := by decide +kernel
theorem dX4_add_70 : decode cX4_add 70 = .ok (.putfield 28, 3) := by decide +kernel
theorem dX4_add_73 : decode cX4_add 73 = .ok (.return_, 1) := by decide +kernel
theorem dX4_stepBack_0 : decode cX4_stepBack 0 = .ok (.aload_n 0, 1) := by decide +kernel
theorem dX4_stepBack_1 : decode cX4_stepBack 1 = .ok (.getfield 28, 3) := by decide +kernel
theorem dX4_stepBack_4 : decode cX4_stepBack 4 = .ok (.ifCond .ne 5, 3) := by decide +kernel
theorem dX4_stepBack_7 : decode cX4_stepBack 7 = .ok (.iconst 0, 1) := by decide +kernel
theorem dX4_stepBack_8 : decode cX4_stepBack 8 = .ok (.ireturn, 1) := by decide +kernel
theorem dX4_stepBack_9 : decode cX4_stepBack 9 = .ok (.aload_n 0, 1) := by decide +kernel
theorem dX4_stepBack_10 : decode cX4_stepBack 10 = .ok (.dup, 1) := by decide +kernel
theorem dX4_stepBack_11 : decode cX4_stepBack 11 = .ok (.getfield 28, 3) := by decide +kernel
theorem dX4_stepBack_14 : decode cX4_stepBack 14 = .ok (.iconst 1, 1) := by decide +kernel
theorem dX4_stepBack_15 : decode cX4_stepBack 15 = .ok (.isub, 1) := by decide +kernel
theorem dX4_stepBack_16 : decode cX4_stepBack 16 = .ok (.putfield 28, 3) := by decide +kernel
theorem dX4_stepBack_19 : decode cX4_stepBack 19 = .ok (.iconst 1, 1) := by decide +kernel
theorem dX4_stepBack_20 : decode cX4_stepBack 20 = .ok (.ireturn, 1) := by decide +kernel
theorem dX4_samplesBefore_0 : decode cX4_samplesBefore 0 = .ok (.aload_n 0, 1) := by decide +kernel
theorem dX4_samplesBefore_1 : decode cX4_samplesBefore 1 = .ok (.getfield 28, 3) := by decide +kernel
theorem dX4_samplesBefore_4 : decode cX4_samplesBefore 4 = .ok (.sipush 256, 3) := by decide +kernel
theorem dX4_samplesBefore_7 : decode cX4_samplesBefore 7 = .ok (.if_icmp .ge 15, 3) := by decide +kernel
theorem dX4_samplesBefore_10 : decode cX4_samplesBefore 10 = .ok (.aload_n 0, 1) := by decide +kernel
theorem dX4_samplesBefore_11 : decode cX4_samplesBefore 11 = .ok (.getfield 9, 3) := by decide +kernel
theorem dX4_samplesBefore_14 : decode cX4_samplesBefore 14 = .ok (.aload_n 0, 1) := by decide +kernel
theorem dX4_samplesBefore_15 : decode cX4_samplesBefore 15 = .ok (.getfield 28, 3) := by decide +kernel
theorem dX4_samplesBefore_18 : decode cX4_samplesBefore 18 = .ok (.iaload, 1) := by decide +kernel
theorem dX4_samplesBefore_19 : decode cX4_samplesBefore 19 = .ok (.goto 4, 3) := by decide +kernel
theorem dX4_samplesBefore_22 : decode cX4_samplesBefore 22 = .ok (.iconst 0, 1) := by decide +kernel
theorem dX4_samplesBefore_23 : decode cX4_samplesBefore 23 = .ok (.ireturn, 1) := by decide +kernel
theorem dX4_lostBefore_0 : decode cX4_lostBefore 0 = .ok (.aload_n 0, 1) := by decide +kernel
theorem dX4_lostBefore_1 : decode cX4_lostBefore 1 = .ok (.getfield 28, 3) := by decide +kernel
theorem dX4_lostBefore_4 : decode cX4_lostBefore 4 = .ok (.sipush 256, 3) := by decide +kernel
theorem dX4_lostBefore_7 : decode cX4_lostBefore 7 = .ok (.if_icmp .ge 15, 3) := by decide +kernel
theorem dX4_lostBefore_10 : decode cX4_lostBefore 10 = .ok (.aload_n 0, 1) := by decide +kernel
theorem dX4_lostBefore_11 : decode cX4_lostBefore 11 = .ok (.getfield 15, 3) := by decide +kernel
theorem dX4_lostBefore_14 : decode cX4_lostBefore 14 = .ok (.aload_n 0, 1) := by decide +kernel
theorem dX4_lostBefore_15 : decode cX4_lostBefore 15 = .ok (.getfield 28, 3) := by decide +kernel
theorem dX4_lostBefore_18 : decode cX4_lostBefore 18 = .ok (.laload, 1) := by decide +kernel
theorem dX4_lostBefore_19 : decode cX4_lostBefore 19 = .ok (.goto 4, 3) := by decide +kernel
theorem dX4_lostBefore_22 : decode cX4_lostBefore 22 = .ok (.lconst 0, 1) := by decide +kernel
theorem dX4_lostBefore_23 : decode cX4_lostBefore 23 = .ok (.lreturn, 1) := by decide +kernel
theorem dX4_touched_0 : decode cX4_touched 0 = .ok (.aload_n 0, 1) := by decide +kernel
theorem dX4_touched_1 : decode cX4_touched 1 = .ok (.getfield 28, 3) := by decide +kernel
theorem dX4_touched_4 : decode cX4_touched 4 = .ok (.sipush 256, 3) := by decide +kernel
theorem dX4_touched_7 : decode cX4_touched 7 = .ok (.if_icmp .ge 15, 3) := by decide +kernel
theorem dX4_touched_10 : decode cX4_touched 10 = .ok (.aload_n 0, 1) := by decide +kernel
theorem dX4_touched_11 : decode cX4_touched 11 = .ok (.getfield 19, 3) := by decide +kernel
theorem dX4_touched_14 : decode cX4_touched 14 = .ok (.aload_n 0, 1) := by decide +kernel
theorem dX4_touched_15 : decode cX4_touched 15 = .ok (.getfield 28, 3) := by decide +kernel
theorem dX4_touched_18 : decode cX4_touched 18 = .ok (.iaload, 1) := by decide +kernel
theorem dX4_touched_19 : decode cX4_touched 19 = .ok (.goto 4, 3) := by decide +kernel
theorem dX4_touched_22 : decode cX4_touched 22 = .ok (.iconst 0, 1) := by decide +kernel
theorem dX4_touched_23 : decode cX4_touched 23 = .ok (.ireturn, 1) := by decide +kernel
theorem dX4_wellBefore_0 : decode cX4_wellBefore 0 = .ok (.aload_n 0, 1) := by decide +kernel
theorem dX4_wellBefore_1 : decode cX4_wellBefore 1 = .ok (.getfield 28, 3) := by decide +kernel
theorem dX4_wellBefore_4 : decode cX4_wellBefore 4 = .ok (.sipush 256, 3) := by decide +kernel
theorem dX4_wellBefore_7 : decode cX4_wellBefore 7 = .ok (.if_icmp .ge 15, 3) := by decide +kernel
theorem dX4_wellBefore_10 : decode cX4_wellBefore 10 = .ok (.aload_n 0, 1) := by decide +kernel
theorem dX4_wellBefore_11 : decode cX4_wellBefore 11 = .ok (.getfield 22, 3) := by decide +kernel
theorem dX4_wellBefore_14 : decode cX4_wellBefore 14 = .ok (.aload_n 0, 1) := by decide +kernel
theorem dX4_wellBefore_15 : decode cX4_wellBefore 15 = .ok (.getfield 28, 3) := by decide +kernel
theorem dX4_wellBefore_18 : decode cX4_wellBefore 18 = .ok (.iaload, 1) := by decide +kernel
theorem dX4_wellBefore_19 : decode cX4_wellBefore 19 = .ok (.goto 4, 3) := by decide +kernel
theorem dX4_wellBefore_22 : decode cX4_wellBefore 22 = .ok (.iconst (-1), 1) := by decide +kernel
theorem dX4_wellBefore_23 : decode cX4_wellBefore 23 = .ok (.ireturn, 1) := by decide +kernel
theorem dX4_volumeBefore_0 : decode cX4_volumeBefore 0 = .ok (.aload_n 0, 1) := by decide +kernel
theorem dX4_volumeBefore_1 : decode cX4_volumeBefore 1 = .ok (.getfield 28, 3) := by decide +kernel
theorem dX4_volumeBefore_4 : decode cX4_volumeBefore 4 = .ok (.sipush 256, 3) := by decide +kernel
theorem dX4_volumeBefore_7 : decode cX4_volumeBefore 7 = .ok (.if_icmp .ge 15, 3) := by decide +kernel
theorem dX4_volumeBefore_10 : decode cX4_volumeBefore 10 = .ok (.aload_n 0, 1) := by decide +kernel
theorem dX4_volumeBefore_11 : decode cX4_volumeBefore 11 = .ok (.getfield 25, 3) := by decide +kernel
theorem dX4_volumeBefore_14 : decode cX4_volumeBefore 14 = .ok (.aload_n 0, 1) := by decide +kernel
theorem dX4_volumeBefore_15 : decode cX4_volumeBefore 15 = .ok (.getfield 28, 3) := by decide +kernel
theorem dX4_volumeBefore_18 : decode cX4_volumeBefore 18 = .ok (.laload, 1) := by decide +kernel
theorem dX4_volumeBefore_19 : decode cX4_volumeBefore 19 = .ok (.goto 4, 3) := by decide +kernel
theorem dX4_volumeBefore_22 : decode cX4_volumeBefore 22 = .ok (.lconst 0, 1) := by decide +kernel
theorem dX4_volumeBefore_23 : decode cX4_volumeBefore 23 = .ok (.lreturn, 1) := by decide +kernel
theorem dX5_init_0 : decode cX5_init 0 = .ok (.aload_n 0, 1) := by decide +kernel
theorem dX5_init_1 : decode cX5_init 1 = .ok (.invokespecial 3, 3) := by decide +kernel
theorem dX5_init_4 : decode cX5_init 4 = .ok (.aload_n 0, 1) := by decide +kernel
theorem dX5_init_5 : decode cX5_init 5 = .ok (.iconst 0, 1) := by decide +kernel
theorem dX5_init_6 : decode cX5_init 6 = .ok (.putfield 9, 3) := by decide +kernel
theorem dX5_init_9 : decode cX5_init 9 = .ok (.aload_n 0, 1) := by decide +kernel
theorem dX5_init_10 : decode cX5_init 10 = .ok (.iconst (-1), 1) := by decide +kernel
theorem dX5_init_11 : decode cX5_init 11 = .ok (.putfield 17, 3) := by decide +kernel
theorem dX5_init_14 : decode cX5_init 14 = .ok (.aload_n 0, 1) := by decide +kernel
theorem dX5_init_15 : decode cX5_init 15 = .ok (.aload_n 1, 1) := by decide +kernel
end
section
theorem dX5_init_16 : decode cX5_init 16 = .ok (.putfield 20, 3) := by decide +kernel
theorem dX5_init_19 : decode cX5_init 19 = .ok (.aload_n 0, 1) := by decide +kernel
theorem dX5_init_20 : decode cX5_init 20 = .ok (.aload_n 2, 1) := by decide +kernel
theorem dX5_init_21 : decode cX5_init 21 = .ok (.putfield 24, 3) := by decide +kernel
theorem dX5_init_24 : decode cX5_init 24 = .ok (.return_, 1) := by decide +kernel
theorem dX5_position_0 : decode cX5_position 0 = .ok (.aload_n 0, 1) := by decide +kernel
theorem dX5_position_1 : decode cX5_position 1 = .ok (.getfield 9, 3) := by decide +kernel
theorem dX5_position_4 : decode cX5_position 4 = .ok (.ireturn, 1) := by decide +kernel
theorem dX5_goTo_0 : decode cX5_goTo 0 = .ok (.aload_n 0, 1) := by decide +kernel
theorem dX5_goTo_1 : decode cX5_goTo 1 = .ok (.aload_n 1, 1) := by decide +kernel
theorem dX5_goTo_2 : decode cX5_goTo 2 = .ok (.putfield 24, 3) := by decide +kernel
theorem dX5_goTo_5 : decode cX5_goTo 5 = .ok (.aload_n 0, 1) := by decide +kernel
theorem dX5_goTo_6 : decode cX5_goTo 6 = .ok (.iload_n 2, 1) := by decide +kernel
theorem dX5_goTo_7 : decode cX5_goTo 7 = .ok (.putfield 9, 3) := by decide +kernel
theorem dX5_goTo_10 : decode cX5_goTo 10 = .ok (.return_, 1) := by decide +kernel
set_option maxRecDepth 20000 in
theorem ggX5_writeZeros_X5_writeByte : GoodIn wsX5_writeZeros wsX5_writeByte := goodIn_r _ [5, 6, 7, 8, 9, 10, 11, 12, 13, 14, 15, 16, 17, 18, 19, 20, 21, 22, 23, 24, 25, 26, 27, 28, 29, 30, 31, 32, 33, 34] (by decide +kernel) (by decide +kernel)
set_option maxRecDepth 20000 in
theorem gX5_writeZeros_X5_writeByte : GoodIn wsX5_writeZeros (wsV RX5 28 RX5 yX5_writeByte wsX5_writeByte) := goodIn_app (goodIn_of _ (by decide +kernel)) ggX5_writeZeros_X5_writeByte
theorem dX5_writeZeros_0 : decode cX5_writeZeros 0 = .ok (.iconst 0, 1) := by decide +kernel
theorem dX5_writeZeros_1 : decode cX5_writeZeros 1 = .ok (.istore_n 2, 1) := by decide +kernel
theorem dX5_writeZeros_2 : decode cX5_writeZeros 2 = .ok (.iload_n 2, 1) := by decide +kernel
theorem dX5_writeZeros_3 : decode cX5_writeZeros 3 = .ok (.iload_n 1, 1) := by decide +kernel
theorem dX5_writeZeros_4 : decode cX5_writeZeros 4 = .ok (.if_icmp .ge 14, 3) := by decide +kernel
theorem dX5_writeZeros_7 : decode cX5_writeZeros 7 = .ok (.aload_n 0, 1) := by decide +kernel
theorem dX5_writeZeros_8 : decode cX5_writeZeros 8 = .ok (.iconst 0, 1) := by decide +kernel
theorem dX5_writeZeros_9 : decode cX5_writeZeros 9 = .ok (.invokevirtual 28, 3) := by decide +kernel
theorem dX5_writeZeros_12 : decode cX5_writeZeros 12 = .ok (.iinc 2 1, 3) := by decide +kernel
theorem dX5_writeZeros_15 : decode cX5_writeZeros 15 = .ok (.goto (-13), 3) := by decide +kernel
theorem dX5_writeZeros_18 : decode cX5_writeZeros 18 = .ok (.return_, 1) := by decide +kernel
set_option maxRecDepth 20000 in
theorem ggX5_writeHead_X5_writeNumber : GoodIn wsX5_writeHead wsX5_writeNumber := goodIn_r _ [6, 1, 7, 8, 9, 10, 11, 12, 13, 14, 5, 15, 16, 17, 18, 19, 20, 21, 22, 23, 24, 25, 26, 27, 28, 29, 30, 31, 32, 33, 34, 38, 39, 40, 41, 42, 43, 44, 45, 46, 47] (by decide +kernel) (by decide +kernel)
set_option maxRecDepth 20000 in
theorem gX5_writeHead_X5_writeNumber : GoodIn wsX5_writeHead (wsV RX5 32 RX5 yX5_writeNumber wsX5_writeNumber) := goodIn_app (goodIn_of _ (by decide +kernel)) ggX5_writeHead_X5_writeNumber
set_option maxRecDepth 20000 in
theorem ggX5_writeHead_X1_end : GoodIn wsX5_writeHead wsX1_end := goodIn_r _ [37] (by decide +kernel) (by decide +kernel)
set_option maxRecDepth 20000 in
theorem gX5_writeHead_X1_end : GoodIn wsX5_writeHead (va_wsS RX5 36 yX1_end wsX1_end) := goodIn_app (goodIn_of _ (by decide +kernel)) ggX5_writeHead_X1_end
set_option maxRecDepth 20000 in
theorem ggX5_writeHead_X5_writeByte : GoodIn wsX5_writeHead wsX5_writeByte := goodIn_r _ [15, 16, 17, 18, 19, 20, 21, 22, 23, 24, 25, 26, 27, 28, 29, 30, 31, 32, 33, 34, 38, 39, 40, 41, 42, 43, 44, 45, 46, 47] (by decide +kernel) (by decide +kernel)
set_option maxRecDepth 20000 in
theorem gX5_writeHead_X5_writeByte : GoodIn wsX5_writeHead (wsV RX5 28 RX5 yX5_writeByte wsX5_writeByte) := goodIn_app (goodIn_of _ (by decide +kernel)) ggX5_writeHead_X5_writeByte
theorem dX5_writeHead_0 : decode cX5_writeHead 0 = .ok (.aload_n 0, 1) := by decide +kernel
theorem dX5_writeHead_1 : decode cX5_writeHead 1 = .ok (.iconst (-1), 1) := by decide +kernel
theorem dX5_writeHead_2 : decode cX5_writeHead 2 = .ok (.putfield 17, 3) := by decide +kernel
theorem dX5_writeHead_5 : decode cX5_writeHead 5 = .ok (.aload_n 0, 1) := by decide +kernel
theorem dX5_writeHead_6 : decode cX5_writeHead 6 = .ok (.iload_n 1, 1) := by decide +kernel
theorem dX5_writeHead_7 : decode cX5_writeHead 7 = .ok (.i2l, 1) := by decide +kernel
theorem dX5_writeHead_8 : decode cX5_writeHead 8 = .ok (.iconst 4, 1) := by decide +kernel
theorem dX5_writeHead_9 : decode cX5_writeHead 9 = .ok (.invokevirtual 32, 3) := by decide +kernel
theorem dX5_writeHead_12 : decode cX5_writeHead 12 = .ok (.aload_n 0, 1) := by decide +kernel
theorem dX5_writeHead_13 : decode cX5_writeHead 13 = .ok (.aload_n 0, 1) := by decide +kernel
theorem dX5_writeHead_14 : decode cX5_writeHead 14 = .ok (.getfield 17, 3) := by decide +kernel
theorem dX5_writeHead_17 : decode cX5_writeHead 17 = .ok (.invokestatic 36, 3) := by decide +kernel
theorem dX5_writeHead_20 : decode cX5_writeHead 20 = .ok (.i2l, 1) := by decide +kernel
theorem dX5_writeHead_21 : decode cX5_writeHead 21 = .ok (.iconst 4, 1) := by decide +kernel
theorem dX5_writeHead_22 : decode cX5_writeHead 22 = .ok (.invokevirtual 32, 3) := by decide +kernel
theorem dX5_writeHead_25 : decode cX5_writeHead 25 = .ok (.aload_n 0, 1) := by decide +kernel
theorem dX5_writeHead_26 : decode cX5_writeHead 26 = .ok (.sipush 165, 3) := by decide +kernel
theorem dX5_writeHead_29 : decode cX5_writeHead 29 = .ok (.invokevirtual 28, 3) := by decide +kernel
theorem dX5_writeHead_32 : decode cX5_writeHead 32 = .ok (.return_, 1) := by decide +kernel
set_option maxRecDepth 20000 in
theorem ggX5_writeRecord_X2_length : GoodIn wsX5_writeRecord wsX2_length := goodIn_r _ [6, 7, 8, 9, 5, 10, 11, 12, 13, 14, 15, 16, 17, 18, 19, 63, 64, 65, 66] (by decide +kernel) (by decide +kernel)
set_option maxRecDepth 20000 in
theorem gX5_writeRecord_X2_length : GoodIn wsX5_writeRecord (wsV RX5 40 RX2 yX2_length wsX2_length) := goodIn_app (goodIn_of _ (by decide +kernel)) ggX5_writeRecord_X2_length
set_option maxRecDepth 20000 in
theorem ggX5_writeRecord_X5_writeNumber : GoodIn wsX5_writeRecord wsX5_writeNumber := goodIn_r _ [24, 1, 25, 26, 27, 28, 29, 30, 31, 32, 23, 33, 34, 35, 36, 37, 38, 39, 40, 41, 42, 43, 44, 45, 46, 47, 48, 49, 50, 51, 52, 59, 60, 61, 62, 67, 68, 69, 70, 71, 72] (by decide +kernel) (by decide +kernel)
set_option maxRecDepth 20000 in
theorem gX5_writeRecord_X5_writeNumber : GoodIn wsX5_writeRecord (wsV RX5 32 RX5 yX5_writeNumber wsX5_writeNumber) := goodIn_app (goodIn_of _ (by decide +kernel)) ggX5_writeRecord_X5_writeNumber
set_option maxRecDepth 20000 in
theorem ggX5_writeRecord_X2_hasSample : GoodIn wsX5_writeRecord wsX2_hasSample := goodIn_r _ [10, 11, 63, 64, 65, 66] (by decide +kernel) (by decide +kernel)
set_option maxRecDepth 20000 in
theorem gX5_writeRecord_X2_hasSample : GoodIn wsX5_writeRecord (wsV RX5 49 RX2 yX2_hasSample wsX2_hasSample) := goodIn_app (goodIn_of _ (by decide +kernel)) ggX5_writeRecord_X2_hasSample
set_option maxRecDepth 20000 in
theorem ggX5_writeRecord_X2_hasWell : GoodIn wsX5_writeRecord wsX2_hasWell := goodIn_r _ [15, 11, 63, 64, 65, 66] (by decide +kernel) (by decide +kernel)
set_option maxRecDepth 20000 in
theorem gX5_writeRecord_X2_hasWell : GoodIn wsX5_writeRecord (wsV RX5 56 RX2 yX2_hasWell wsX2_hasWell) := goodIn_app (goodIn_of _ (by decide +kernel)) ggX5_writeRecord_X2_hasWell
set_option maxRecDepth 20000 in
theorem ggX5_writeRecord_X2_hasVolume : GoodIn wsX5_writeRecord wsX2_hasVolume := goodIn_r _ [19, 11, 63, 64, 65, 66] (by decide +kernel) (by decide +kernel)
set_option maxRecDepth 20000 in
theorem gX5_writeRecord_X2_hasVolume : GoodIn wsX5_writeRecord (wsV RX5 62 RX2 yX2_hasVolume wsX2_hasVolume) := goodIn_app (goodIn_of _ (by decide +kernel)) ggX5_writeRecord_X2_hasVolume
set_option maxRecDepth 20000 in
theorem ggX5_writeRecord_X1_end : GoodIn wsX5_writeRecord wsX1_end := goodIn_r _ [58] (by decide +kernel) (by decide +kernel)
set_option maxRecDepth 20000 in
theorem gX5_writeRecord_X1_end : GoodIn wsX5_writeRecord (va_wsS RX5 36 yX1_end wsX1_end) := goodIn_app (goodIn_of _ (by decide +kernel)) ggX5_writeRecord_X1_end
set_option maxRecDepth 20000 in
theorem ggX5_writeRecord_X5_writeByte : GoodIn wsX5_writeRecord wsX5_writeByte := goodIn_r _ [33, 34, 35, 36, 37, 38, 39, 40, 41, 42, 43, 44, 45, 46, 47, 48, 49, 50, 51, 52, 59, 60, 61, 62, 67, 68, 69, 70, 71, 72] (by decide +kernel) (by decide +kernel)
set_option maxRecDepth 20000 in
theorem gX5_writeRecord_X5_writeByte : GoodIn wsX5_writeRecord (wsV RX5 28 RX5 yX5_writeByte wsX5_writeByte) := goodIn_app (goodIn_of _ (by decide +kernel)) ggX5_writeRecord_X5_writeByte
theorem dX5_writeRecord_0 : decode cX5_writeRecord 0 = .ok (.aload_n 0, 1) := by decide +kernel
theorem dX5_writeRecord_1 : decode cX5_writeRecord 1 = .ok (.iconst (-1), 1) := by decide +kernel
theorem dX5_writeRecord_2 : decode cX5_writeRecord 2 = .ok (.putfield 17, 3) := by decide +kernel
theorem dX5_writeRecord_5 : decode cX5_writeRecord 5 = .ok (.aload_n 0, 1) := by decide +kernel
theorem dX5_writeRecord_6 : decode cX5_writeRecord 6 = .ok (.aload_n 1, 1) := by decide +kernel
theorem dX5_writeRecord_7 : decode cX5_writeRecord 7 = .ok (.invokevirtual 40, 3) := by decide +kernel
theorem dX5_writeRecord_10 : decode cX5_writeRecord 10 = .ok (.i2l, 1) := by decide +kernel
theorem dX5_writeRecord_11 : decode cX5_writeRecord 11 = .ok (.iconst 2, 1) := by decide +kernel
theorem dX5_writeRecord_12 : decode cX5_writeRecord 12 = .ok (.invokevirtual 32, 3) := by decide +kernel
theorem dX5_writeRecord_15 : decode cX5_writeRecord 15 = .ok (.aload_n 0, 1) := by decide +kernel
theorem dX5_writeRecord_16 : decode cX5_writeRecord 16 = .ok (.aload_n 1, 1) := by decide +kernel
theorem dX5_writeRecord_17 : decode cX5_writeRecord 17 = .ok (.getfield 46, 3) := by decide +kernel
theorem dX5_writeRecord_20 : decode cX5_writeRecord 20 = .ok (.i2l, 1) := by decide +kernel
theorem dX5_writeRecord_21 : decode cX5_writeRecord 21 = .ok (.iconst 1, 1) := by decide +kernel
theorem dX5_writeRecord_22 : decode cX5_writeRecord 22 = .ok (.invokevirtual 32, 3) := by decide +kernel
theorem dX5_writeRecord_25 : decode cX5_writeRecord 25 = .ok (.aload_n 1, 1) := by decide +kernel
theorem dX5_writeRecord_26 : decode cX5_writeRecord 26 = .ok (.invokevirtual 49, 3) := by decide +kernel
theorem dX5_writeRecord_29 : decode cX5_writeRecord 29 = .ok (.ifCond .eq 13, 3) := by decide +kernel
theorem dX5_writeRecord_32 : decode cX5_writeRecord 32 = .ok (.aload_n 0, 1) := by decide +kernel
theorem dX5_writeRecord_33 : decode cX5_writeRecord 33 = .ok (.aload_n 1, 1) := by decide +kernel
theorem dX5_writeRecord_34 : decode cX5_writeRecord 34 = .ok (.getfield 53, 3) := by decide +kernel
theorem dX5_writeRecord_37 : decode cX5_writeRecord 37 = .ok (.i2l, 1) := by decide +kernel
theorem dX5_writeRecord_38 : decode cX5_writeRecord 38 = .ok (.iconst 2, 1) := by decide +kernel
theorem dX5_writeRecord_39 : decode cX5_writeRecord 39 = .ok (.invokevirtual 32, 3) := by decide +kernel
theorem dX5_writeRecord_42 : decode cX5_writeRecord 42 = .ok (.aload_n 1, 1) := by decide +kernel
theorem dX5_writeRecord_43 : decode cX5_writeRecord 43 = .ok (.invokevirtual 56, 3) := by decide +kernel
theorem dX5_writeRecord_46 : decode cX5_writeRecord 46 = .ok (.ifCond .eq 13, 3) := by decide +kernel
theorem dX5_writeRecord_49 : decode cX5_writeRecord 49 = .ok (.aload_n 0, 1) := by decide +kernel
theorem dX5_writeRecord_50 : decode cX5_writeRecord 50 = .ok (.aload_n 1, 1) := by decide +kernel
theorem dX5_writeRecord_51 : decode cX5_writeRecord 51 = .ok (.getfield 59, 3) := by decide +kernel
theorem dX5_writeRecord_54 : decode cX5_writeRecord 54 = .ok (.i2l, 1) := by decide +kernel
theorem dX5_writeRecord_55 : decode cX5_writeRecord 55 = .ok (.iconst 1, 1) := by decide +kernel
theorem dX5_writeRecord_56 : decode cX5_writeRecord 56 = .ok (.invokevirtual 32, 3) := by decide +kernel
theorem dX5_writeRecord_59 : decode cX5_writeRecord 59 = .ok (.aload_n 1, 1) := by decide +kernel
theorem dX5_writeRecord_60 : decode cX5_writeRecord 60 = .ok (.invokevirtual 62, 3) := by decide +kernel
theorem dX5_writeRecord_63 : decode cX5_writeRecord 63 = .ok (.ifCond .eq 13, 3) := by decide +kernel
theorem dX5_writeRecord_66 : decode cX5_writeRecord 66 = .ok (.aload_n 0, 1) := by decide +kernel
theorem dX5_writeRecord_67 : decode cX5_writeRecord 67 = .ok (.aload_n 1, 1) := by decide +kernel
theorem dX5_writeRecord_68 : decode cX5_writeRecord 68 = .ok (.getfield 65, 3) := by decide +kernel
theorem dX5_writeRecord_71 : decode cX5_writeRecord 71 = .ok (.bipush 8, 2) := by decide +kernel
theorem dX5_writeRecord_73 : decode cX5_writeRecord 73 = .ok (.invokevirtual 32, 3) := by decide +kernel
theorem dX5_writeRecord_76 : decode cX5_writeRecord 76 = .ok (.aload_n 0, 1) := by decide +kernel
theorem dX5_writeRecord_77 : decode cX5_writeRecord 77 = .ok (.aload_n 0, 1) := by decide +kernel
theorem dX5_writeRecord_78 : decode cX5_writeRecord 78 = .ok (.getfield 17, 3) := by decide +kernel
theorem dX5_writeRecord_81 : decode cX5_writeRecord 81 = .ok (.invokestatic 36, 3) := by decide +kernel
theorem dX5_writeRecord_84 : decode cX5_writeRecord 84 = .ok (.i2l, 1) := by decide +kernel
theorem dX5_writeRecord_85 : decode cX5_writeRecord 85 = .ok (.iconst 4, 1) := by decide +kernel
theorem dX5_writeRecord_86 : decode cX5_writeRecord 86 = .ok (.invokevirtual 32, 3) := by decide +kernel
theorem dX5_writeRecord_89 : decode cX5_writeRecord 89 = .ok (.aload_n 0, 1) := by decide +kernel
theorem dX5_writeRecord_90 : decode cX5_writeRecord 90 = .ok (.sipush 165, 3) := by decide +kernel
theorem dX5_writeRecord_93 : decode cX5_writeRecord 93 = .ok (.invokevirtual 28, 3) := by decide +kernel
theorem dX5_writeRecord_96 : decode cX5_writeRecord 96 = .ok (.return_, 1) := by decide +kernel
set_option maxRecDepth 20000 in
theorem ggX5_writeNumber_X1_step : GoodIn wsX5_writeNumber wsX1_step := goodIn_r _ [5, 6] (by decide +kernel) (by decide +kernel)
set_option maxRecDepth 20000 in
theorem gX5_writeNumber_X1_step : GoodIn wsX5_writeNumber (va_wsS RX5 69 yX1_step wsX1_step) := goodIn_app (goodIn_of _ (by decide +kernel)) ggX5_writeNumber_X1_step
set_option maxRecDepth 20000 in
theorem ggX5_writeNumber_X5_writeByte : GoodIn wsX5_writeNumber wsX5_writeByte := goodIn_r _ [11, 12, 13, 14, 15, 16, 17, 18, 19, 20, 21, 22, 23, 24, 25, 26, 27, 28, 29, 30, 31, 32, 33, 34, 35, 36, 37, 38, 39, 40] (by decide +kernel) (by decide +kernel)
set_option maxRecDepth 20000 in
theorem gX5_writeNumber_X5_writeByte : GoodIn wsX5_writeNumber (wsV RX5 28 RX5 yX5_writeByte wsX5_writeByte) := goodIn_app (goodIn_of _ (by decide +kernel)) ggX5_writeNumber_X5_writeByte
theorem dX5_writeNumber_0 : decode cX5_writeNumber 0 = .ok (.iload_n 3, 1) := by decide +kernel
theorem dX5_writeNumber_1 : decode cX5_writeNumber 1 = .ok (.iconst 1, 1) := by decide +kernel
theorem dX5_writeNumber_2 : decode cX5_writeNumber 2 = .ok (.isub, 1) := by decide +kernel
theorem dX5_writeNumber_3 : decode cX5_writeNumber 3 = .ok (.istore 4, 2) := by decide +kernel
theorem dX5_writeNumber_5 : decode cX5_writeNumber 5 = .ok (.iload 4, 2) := by decide +kernel
theorem dX5_writeNumber_7 : decode cX5_writeNumber 7 = .ok (.ifCond .lt 42, 3) := by decide +kernel
theorem dX5_writeNumber_10 : decode cX5_writeNumber 10 = .ok (.lload_n 1, 1) := by decide +kernel
theorem dX5_writeNumber_11 : decode cX5_writeNumber 11 = .ok (.bipush 8, 2) := by decide +kernel
theorem dX5_writeNumber_13 : decode cX5_writeNumber 13 = .ok (.iload 4, 2) := by decide +kernel
theorem dX5_writeNumber_15 : decode cX5_writeNumber 15 = .ok (.imul, 1) := by decide +kernel
theorem dX5_writeNumber_16 : decode cX5_writeNumber 16 = .ok (.lushr, 1) := by decide +kernel
theorem dX5_writeNumber_17 : decode cX5_writeNumber 17 = .ok (.l2i, 1) := by decide +kernel
theorem dX5_writeNumber_18 : decode cX5_writeNumber 18 = .ok (.sipush 255, 3) := by decide +kernel
theorem dX5_writeNumber_21 : decode cX5_writeNumber 21 = .ok (.iand, 1) := by decide +kernel
theorem dX5_writeNumber_22 : decode cX5_writeNumber 22 = .ok (.istore 5, 2) := by decide +kernel
theorem dX5_writeNumber_24 : decode cX5_writeNumber 24 = .ok (.aload_n 0, 1) := by decide +kernel
theorem dX5_writeNumber_25 : decode cX5_writeNumber 25 = .ok (.aload_n 0, 1) := by decide +kernel
theorem dX5_writeNumber_26 : decode cX5_writeNumber 26 = .ok (.getfield 17, 3) := by decide +kernel
theorem dX5_writeNumber_29 : decode cX5_writeNumber 29 = .ok (.iload 5, 2) := by decide +kernel
theorem dX5_writeNumber_31 : decode cX5_writeNumber 31 = .ok (.invokestatic 69, 3) := by decide +kernel
theorem dX5_writeNumber_34 : decode cX5_writeNumber 34 = .ok (.putfield 17, 3) := by decide +kernel
theorem dX5_writeNumber_37 : decode cX5_writeNumber 37 = .ok (.aload_n 0, 1) := by decide +kernel
theorem dX5_writeNumber_38 : decode cX5_writeNumber 38 = .ok (.iload 5, 2) := by decide +kernel
theorem dX5_writeNumber_40 : decode cX5_writeNumber 40 = .ok (.invokevirtual 28, 3) := by decide +kernel
theorem dX5_writeNumber_43 : decode cX5_writeNumber 43 = .ok (.iinc 4 (-1), 3) := by decide +kernel
theorem dX5_writeNumber_46 : decode cX5_writeNumber 46 = .ok (.goto (-41), 3) := by decide +kernel
theorem dX5_writeNumber_49 : decode cX5_writeNumber 49 = .ok (.return_, 1) := by decide +kernel
set_option maxRecDepth 20000 in
theorem ggX5_writeByte_X6_letByteThrough : GoodIn wsX5_writeByte wsX6_letByteThrough := goodIn_r _ [8, 9, 10, 11, 12, 13, 24, 25, 26, 27, 28] (by decide +kernel) (by decide +kernel)
set_option maxRecDepth 20000 in
theorem gX5_writeByte_X6_letByteThrough : GoodIn wsX5_writeByte (wsV RX5 73 RX6 yX6_letByteThrough wsX6_letByteThrough) := goodIn_app (goodIn_of _ (by decide +kernel)) ggX5_writeByte_X6_letByteThrough
set_option maxRecDepth 20000 in
theorem ggX5_writeByte_X0_put : GoodIn wsX5_writeByte wsX0_put := goodIn_r _ [18, 19, 29] (by decide +kernel) (by decide +kernel)
set_option maxRecDepth 20000 in
theorem gX5_writeByte_X0_put : GoodIn wsX5_writeByte (wsV RX5 78 RX0 yX0_put wsX0_put) := goodIn_app (goodIn_of _ (by decide +kernel)) ggX5_writeByte_X0_put
theorem dX5_writeByte_0 : decode cX5_writeByte 0 = .ok (.aload_n 0, 1) := by decide +kernel
theorem dX5_writeByte_1 : decode cX5_writeByte 1 = .ok (.getfield 20, 3) := by decide +kernel
theorem dX5_writeByte_4 : decode cX5_writeByte 4 = .ok (.invokevirtual 73, 3) := by decide +kernel
theorem dX5_writeByte_7 : decode cX5_writeByte 7 = .ok (.ifCond .eq 25, 3) := by decide +kernel
theorem dX5_writeByte_10 : decode cX5_writeByte 10 = .ok (.aload_n 0, 1) := by decide +kernel
theorem dX5_writeByte_11 : decode cX5_writeByte 11 = .ok (.getfield 24, 3) := by decide +kernel
theorem dX5_writeByte_14 : decode cX5_writeByte 14 = .ok (.aload_n 0, 1) := by decide +kernel
theorem dX5_writeByte_15 : decode cX5_writeByte 15 = .ok (.getfield 9, 3) := by decide +kernel
theorem dX5_writeByte_18 : decode cX5_writeByte 18 = .ok (.iload_n 1, 1) := by decide +kernel
theorem dX5_writeByte_19 : decode cX5_writeByte 19 = .ok (.invokevirtual 78, 3) := by decide +kernel
theorem dX5_writeByte_22 : decode cX5_writeByte 22 = .ok (.aload_n 0, 1) := by decide +kernel
theorem dX5_writeByte_23 : decode cX5_writeByte 23 = .ok (.dup, 1) := by decide +kernel
theorem dX5_writeByte_24 : decode cX5_writeByte 24 = .ok (.getfield 9, 3) := by decide +kernel
theorem dX5_writeByte_27 : decode cX5_writeByte 27 = .ok (.iconst 1, 1) := by decide +kernel
theorem dX5_writeByte_28 : decode cX5_writeByte 28 = .ok (.iadd, 1) := by decide +kernel
theorem dX5_writeByte_29 : decode cX5_writeByte 29 = .ok (.putfield 9, 3) := by decide +kernel
theorem dX5_writeByte_32 : decode cX5_writeByte 32 = .ok (.return_, 1) := by decide +kernel
theorem dX6_init_0 : decode cX6_init 0 = .ok (.aload_n 0, 1) := by decide +kernel
theorem dX6_init_1 : decode cX6_init 1 = .ok (.invokespecial 1, 3) := by decide +kernel
theorem dX6_init_4 : decode cX6_init 4 = .ok (.aload_n 0, 1) := by decide +kernel
theorem dX6_init_5 : decode cX6_init 5 = .ok (.iconst 1, 1) := by decide +kernel
theorem dX6_init_6 : decode cX6_init 6 = .ok (.putfield 7, 3) := by decide +kernel
theorem dX6_init_9 : decode cX6_init 9 = .ok (.aload_n 0, 1) := by decide +kernel
theorem dX6_init_10 : decode cX6_init 10 = .ok (.iconst 0, 1) := by decide +kernel
theorem dX6_init_11 : decode cX6_init 11 = .ok (.putfield 13, 3) := by decide +kernel
theorem dX6_init_14 : decode cX6_init 14 = .ok (.aload_n 0, 1) := by decide +kernel
theorem dX6_init_15 : decode cX6_init 15 = .ok (.iconst 0, 1) := by decide +kernel
theorem dX6_init_16 : decode cX6_init 16 = .ok (.putfield 16, 3) := by decide +kernel
theorem dX6_init_19 : decode cX6_init 19 = .ok (.aload_n 0, 1) := by decide +kernel
theorem dX6_init_20 : decode cX6_init 20 = .ok (.iconst 0, 1) := by decide +kernel
theorem dX6_init_21 : decode cX6_init 21 = .ok (.putfield 20, 3) := by decide +kernel
theorem dX6_init_24 : decode cX6_init 24 = .ok (.aload_n 0, 1) := by decide +kernel
theorem dX6_init_25 : decode cX6_init 25 = .ok (.iconst 0, 1) := by decide +kernel
theorem dX6_init_26 : decode cX6_init 26 = .ok (.putfield 23, 3) := by decide +kernel
theorem dX6_init_29 : decode cX6_init 29 = .ok (.return_, 1) := by decide +kernel
theorem dX6_isUp_0 : decode cX6_isUp 0 = .ok (.aload_n 0, 1) := by decide +kernel
theorem dX6_isUp_1 : decode cX6_isUp 1 = .ok (.getfield 7, 3) := by decide +kernel
theorem dX6_isUp_4 : decode cX6_isUp 4 = .ok (.ireturn, 1) := by decide +kernel
theorem dX6_bytesWritten_0 : decode cX6_bytesWritten 0 = .ok (.aload_n 0, 1) := by decide +kernel
theorem dX6_bytesWritten_1 : decode cX6_bytesWritten 1 = .ok (.getfield 20, 3) := by decide +kernel
theorem dX6_bytesWritten_4 : decode cX6_bytesWritten 4 = .ok (.ireturn, 1) := by decide +kernel
theorem dX6_failures_0 : decode cX6_failures 0 = .ok (.aload_n 0, 1) := by decide +kernel
theorem dX6_failures_1 : decode cX6_failures 1 = .ok (.getfield 23, 3) := by decide +kernel
theorem dX6_failures_4 : decode cX6_failures 4 = .ok (.ireturn, 1) := by decide +kernel
theorem dX6_failBehind_0 : decode cX6_failBehind 0 = .ok (.aload_n 0, 1) := by decide +kernel
theorem dX6_failBehind_1 : decode cX6_failBehind 1 = .ok (.iconst 1, 1) := by decide +kernel
theorem dX6_failBehind_2 : decode cX6_failBehind 2 = .ok (.putfield 13, 3) := by decide +kernel
theorem dX6_failBehind_5 : decode cX6_failBehind 5 = .ok (.aload_n 0, 1) := by decide +kernel
theorem dX6_failBehind_6 : decode cX6_failBehind 6 = .ok (.iload_n 1, 1) := by decide +kernel
theorem dX6_failBehind_7 : decode cX6_failBehind 7 = .ok (.putfield 16, 3) := by decide +kernel
theorem dX6_failBehind_10 : decode cX6_failBehind 10 = .ok (.return_, 1) := by decide +kernel
theorem dX6_restore_0 : decode cX6_restore 0 = .ok (.aload_n 0, 1) := by decide +kernel
theorem dX6_restore_1 : decode cX6_restore 1 = .ok (.iconst 1, 1) := by decide +kernel
theorem dX6_restore_2 : decode cX6_restore 2 = .ok (.putfield 7, 3) := by decide +kernel
theorem dX6_restore_5 : decode cX6_restore 5 = .ok (.aload_n 0, 1) := by decide +kernel
theorem dX6_restore_6 : decode cX6_restore 6 = .ok (.iconst 0, 1) := by decide +kernel
theorem dX6_restore_7 : decode cX6_restore 7 = .ok (.putfield 13, 3) := by decide +kernel
theorem dX6_restore_10 : decode cX6_restore 10 = .ok (.return_, 1) := by decide +kernel
theorem dX6_letByteThrough_0 : decode cX6_letByteThrough 0 = .ok (.aload_n 0, 1) := by decide +kernel
theorem dX6_letByteThrough_1 : decode cX6_letByteThrough 1 = .ok (.getfield 7, 3) := by decide +kernel
theorem dX6_letByteThrough_4 : decode cX6_letByteThrough 4 = .ok (.ifCond .eq 21, 3) := by decide +kernel
theorem dX6_letByteThrough_7 : decode cX6_letByteThrough 7 = .ok (.aload_n 0, 1) := by decide +kernel
theorem dX6_letByteThrough_8 : decode cX6_letByteThrough 8 = .ok (.getfield 13, 3) := by decide +kernel
theorem dX6_letByteThrough_11 : decode cX6_letByteThrough 11 = .ok (.ifCond .eq 10, 3) := by decide +kernel
theorem dX6_letByteThrough_14 : decode cX6_letByteThrough 14 = .ok (.aload_n 0, 1) := by decide +kernel
theorem dX6_letByteThrough_15 : decode cX6_letByteThrough 15 = .ok (.getfield 16, 3) := by decide +kernel
theorem dX6_letByteThrough_18 : decode cX6_letByteThrough 18 = .ok (.ifCond .eq 7, 3) := by decide +kernel
theorem dX6_letByteThrough_21 : decode cX6_letByteThrough 21 = .ok (.iconst 1, 1) := by decide +kernel
theorem dX6_letByteThrough_22 : decode cX6_letByteThrough 22 = .ok (.goto 4, 3) := by decide +kernel
theorem dX6_letByteThrough_25 : decode cX6_letByteThrough 25 = .ok (.iconst 0, 1) := by decide +kernel
theorem dX6_letByteThrough_26 : decode cX6_letByteThrough 26 = .ok (.istore_n 1, 1) := by decide +kernel
theorem dX6_letByteThrough_27 : decode cX6_letByteThrough 27 = .ok (.iload_n 1, 1) := by decide +kernel
theorem dX6_letByteThrough_28 : decode cX6_letByteThrough 28 = .ok (.ifCond .eq 34, 3) := by decide +kernel
theorem dX6_letByteThrough_31 : decode cX6_letByteThrough 31 = .ok (.aload_n 0, 1) := by decide +kernel
theorem dX6_letByteThrough_32 : decode cX6_letByteThrough 32 = .ok (.dup, 1) := by decide +kernel
theorem dX6_letByteThrough_33 : decode cX6_letByteThrough 33 = .ok (.getfield 20, 3) := by decide +kernel
theorem dX6_letByteThrough_36 : decode cX6_letByteThrough 36 = .ok (.iconst 1, 1) := by decide +kernel
theorem dX6_letByteThrough_37 : decode cX6_letByteThrough 37 = .ok (.iadd, 1) := by decide +kernel
theorem dX6_letByteThrough_38 : decode cX6_letByteThrough 38 = .ok (.putfield 20, 3) := by decide +kernel
theorem dX6_letByteThrough_41 : decode cX6_letByteThrough 41 = .ok (.aload_n 0, 1) := by decide +kernel
theorem dX6_letByteThrough_42 : decode cX6_letByteThrough 42 = .ok (.dup, 1) := by decide +kernel
theorem dX6_letByteThrough_43 : decode cX6_letByteThrough 43 = .ok (.getfield 16, 3) := by decide +kernel
theorem dX6_letByteThrough_46 : decode cX6_letByteThrough 46 = .ok (.aload_n 0, 1) := by decide +kernel
theorem dX6_letByteThrough_47 : decode cX6_letByteThrough 47 = .ok (.getfield 13, 3) := by decide +kernel
theorem dX6_letByteThrough_50 : decode cX6_letByteThrough 50 = .ok (.ifCond .eq 7, 3) := by decide +kernel
theorem dX6_letByteThrough_53 : decode cX6_letByteThrough 53 = .ok (.iconst 1, 1) := by decide +kernel
theorem dX6_letByteThrough_54 : decode cX6_letByteThrough 54 = .ok (.goto 4, 3) := by decide +kernel
theorem dX6_letByteThrough_57 : decode cX6_letByteThrough 57 = .ok (.iconst 0, 1) := by decide +kernel
theorem dX6_letByteThrough_58 : decode cX6_letByteThrough 58 = .ok (.isub, 1) := by decide +kernel
theorem dX6_letByteThrough_59 : decode cX6_letByteThrough 59 = .ok (.putfield 16, 3) := by decide +kernel
theorem dX6_letByteThrough_62 : decode cX6_letByteThrough 62 = .ok (.aload_n 0, 1) := by decide +kernel
theorem dX6_letByteThrough_63 : decode cX6_letByteThrough 63 = .ok (.getfield 13, 3) := by decide +kernel
theorem dX6_letByteThrough_66 : decode cX6_letByteThrough 66 = .ok (.ifCond .eq 30, 3) := by decide +kernel
theorem dX6_letByteThrough_69 : decode cX6_letByteThrough 69 = .ok (.aload_n 0, 1) := by decide +kernel
theorem dX6_letByteThrough_70 : decode cX6_letByteThrough 70 = .ok (.getfield 16, 3) := by decide +kernel
theorem dX6_letByteThrough_73 : decode cX6_letByteThrough 73 = .ok (.ifCond .ne 23, 3) := by decide +kernel
theorem dX6_letByteThrough_76 : decode cX6_letByteThrough 76 = .ok (.aload_n 0, 1) := by decide +kernel
theorem dX6_letByteThrough_77 : decode cX6_letByteThrough 77 = .ok (.iconst 0, 1) := by decide +kernel
theorem dX6_letByteThrough_78 : decode cX6_letByteThrough 78 = .ok (.putfield 7, 3) := by decide +kernel
theorem dX6_letByteThrough_81 : decode cX6_letByteThrough 81 = .ok (.aload_n 0, 1) := by decide +kernel
theorem dX6_letByteThrough_82 : decode cX6_letByteThrough 82 = .ok (.iconst 0, 1) := by decide +kernel
theorem dX6_letByteThrough_83 : decode cX6_letByteThrough 83 = .ok (.putfield 13, 3) := by decide +kernel
theorem dX6_letByteThrough_86 : decode cX6_letByteThrough 86 = .ok (.aload_n 0, 1) := by decide +kernel
theorem dX6_letByteThrough_87 : decode cX6_letByteThrough 87 = .ok (.dup, 1) := by decide +kernel
theorem dX6_letByteThrough_88 : decode cX6_letByteThrough 88 = .ok (.getfield 23, 3) := by decide +kernel
theorem dX6_letByteThrough_91 : decode cX6_letByteThrough 91 = .ok (.iconst 1, 1) := by decide +kernel
theorem dX6_letByteThrough_92 : decode cX6_letByteThrough 92 = .ok (.iadd, 1) := by decide +kernel
theorem dX6_letByteThrough_93 : decode cX6_letByteThrough 93 = .ok (.putfield 23, 3) := by decide +kernel
theorem dX6_letByteThrough_96 : decode cX6_letByteThrough 96 = .ok (.iload_n 1, 1) := by decide +kernel
theorem dX6_letByteThrough_97 : decode cX6_letByteThrough 97 = .ok (.ireturn, 1) := by decide +kernel
set_option maxRecDepth 20000 in
theorem ggX7_init_X4_init : GoodIn wsX7_init wsX4_init := goodIn_r _ [18, 19, 2, 3, 4, 20, 7, 21, 22, 23, 24, 25, 33, 34, 35, 36, 37, 38] (by decide +kernel) (by decide +kernel)
set_option maxRecDepth 20000 in
theorem gX7_init_X4_init_n28 : GoodIn wsX7_init (wsX4_init) := ggX7_init_X4_init
theorem dX7_init_0 : decode cX7_init 0 = .ok (.aload_n 0, 1) := by decide +kernel
theorem dX7_init_1 : decode cX7_init 1 = .ok (.invokespecial 3, 3) := by decide +kernel
theorem dX7_init_4 : decode cX7_init 4 = .ok (.aload_n 0, 1) := by decide +kernel
theorem dX7_init_5 : decode cX7_init 5 = .ok (.bipush 121, 2) := by decide +kernel
theorem dX7_init_7 : decode cX7_init 7 = .ok (.newarray .int, 2) := by decide +kernel
theorem dX7_init_9 : decode cX7_init 9 = .ok (.putfield 9, 3) := by decide +kernel
theorem dX7_init_12 : decode cX7_init 12 = .ok (.aload_n 0, 1) := by decide +kernel
theorem dX7_init_13 : decode cX7_init 13 = .ok (.bipush 121, 2) := by decide +kernel
theorem dX7_init_15 : decode cX7_init 15 = .ok (.newarray .int, 2) := by decide +kernel
theorem dX7_init_17 : decode cX7_init 17 = .ok (.putfield 15, 3) := by decide +kernel
theorem dX7_init_20 : decode cX7_init 20 = .ok (.aload_n 0, 1) := by decide +kernel
theorem dX7_init_21 : decode cX7_init 21 = .ok (.bipush 121, 2) := by decide +kernel
theorem dX7_init_23 : decode cX7_init 23 = .ok (.newarray .long, 2) := by decide +kernel
theorem dX7_init_25 : decode cX7_init 25 = .ok (.putfield 18, 3) := by decide +kernel
theorem dX7_init_28 : decode cX7_init 28 = .ok (.aload_n 0, 1) := by decide +kernel
theorem dX7_init_29 : decode cX7_init 29 = .ok (.bipush 121, 2) := by decide +kernel
theorem dX7_init_31 : decode cX7_init 31 = .ok (.newarray .boolean, 2) := by decide +kernel
theorem dX7_init_33 : decode cX7_init 33 = .ok (.putfield 22, 3) := by decide +kernel
theorem dX7_init_36 : decode cX7_init 36 = .ok (.aload_n 0, 1) := by decide +kernel
theorem dX7_init_37 : decode cX7_init 37 = .ok (.new 26, 3) := by decide +kernel
theorem dX7_init_40 : decode cX7_init 40 = .ok (.dup, 1) := by decide +kernel
theorem dX7_init_41 : decode cX7_init 41 = .ok (.invokespecial 28, 3) := by decide +kernel
theorem dX7_init_44 : decode cX7_init 44 = .ok (.putfield 29, 3) := by decide +kernel
theorem dX7_init_47 : decode cX7_init 47 = .ok (.aload_n 0, 1) := by decide +kernel
theorem dX7_init_48 : decode cX7_init 48 = .ok (.iconst 0, 1) := by decide +kernel
theorem dX7_init_49 : decode cX7_init 49 = .ok (.putfield 33, 3) := by decide +kernel
theorem dX7_init_52 : decode cX7_init 52 = .ok (.aload_n 0, 1) := by decide +kernel
theorem dX7_init_53 : decode cX7_init 53 = .ok (.lconst 0, 1) := by decide +kernel
theorem dX7_init_54 : decode cX7_init 54 = .ok (.putfield 37, 3) := by decide +kernel
theorem dX7_init_57 : decode cX7_init 57 = .ok (.return_, 1) := by decide +kernel
theorem dX7_sampleCount_0 : decode cX7_sampleCount 0 = .ok (.aload_n 0, 1) := by decide +kernel
theorem dX7_sampleCount_1 : decode cX7_sampleCount 1 = .ok (.getfield 33, 3) := by decide +kernel
theorem dX7_sampleCount_4 : decode cX7_sampleCount 4 = .ok (.ireturn, 1) := by decide +kernel
theorem dX7_isFull_0 : decode cX7_isFull 0 = .ok (.aload_n 0, 1) := by decide +kernel
theorem dX7_isFull_1 : decode cX7_isFull 1 = .ok (.getfield 33, 3) := by decide +kernel
theorem dX7_isFull_4 : decode cX7_isFull 4 = .ok (.bipush 120, 2) := by decide +kernel
theorem dX7_isFull_6 : decode cX7_isFull 6 = .ok (.if_icmp .lt 7, 3) := by decide +kernel
theorem dX7_isFull_9 : decode cX7_isFull 9 = .ok (.iconst 1, 1) := by decide +kernel
theorem dX7_isFull_10 : decode cX7_isFull 10 = .ok (.goto 4, 3) := by decide +kernel
theorem dX7_isFull_13 : decode cX7_isFull 13 = .ok (.iconst 0, 1) := by decide +kernel
theorem dX7_isFull_14 : decode cX7_isFull 14 = .ok (.ireturn, 1) := by decide +kernel
theorem dX7_isSample_0 : decode cX7_isSample 0 = .ok (.iload_n 1, 1) := by decide +kernel
theorem dX7_isSample_1 : decode cX7_isSample 1 = .ok (.iconst 1, 1) := by decide +kernel
theorem dX7_isSample_2 : decode cX7_isSample 2 = .ok (.if_icmp .lt 24, 3) := by decide +kernel
theorem dX7_isSample_5 : decode cX7_isSample 5 = .ok (.iload_n 1, 1) := by decide +kernel
theorem dX7_isSample_6 : decode cX7_isSample 6 = .ok (.aload_n 0, 1) := by decide +kernel
theorem dX7_isSample_7 : decode cX7_isSample 7 = .ok (.getfield 33, 3) := by decide +kernel
theorem dX7_isSample_10 : decode cX7_isSample 10 = .ok (.if_icmp .gt 16, 3) := by decide +kernel
theorem dX7_isSample_13 : decode cX7_isSample 13 = .ok (.aload_n 0, 1) := by decide +kernel
theorem dX7_isSample_14 : decode cX7_isSample 14 = .ok (.getfield 33, 3) := by decide +kernel
theorem dX7_isSample_17 : decode cX7_isSample 17 = .ok (.bipush 120, 2) := by decide +kernel
theorem dX7_isSample_19 : decode cX7_isSample 19 = .ok (.if_icmp .gt 7, 3) := by decide +kernel
theorem dX7_isSample_22 : decode cX7_isSample 22 = .ok (.iconst 1, 1) := by decide +kernel
theorem dX7_isSample_23 : decode cX7_isSample 23 = .ok (.goto 4, 3) := by decide +kernel
theorem dX7_isSample_26 : decode cX7_isSample 26 = .ok (.iconst 0, 1) := by decide +kernel
theorem dX7_isSample_27 : decode cX7_isSample 27 = .ok (.ireturn, 1) := by decide +kernel
set_option maxRecDepth 20000 in
theorem ggX7_isLive_X7_wellOf : GoodIn wsX7_isLive wsX7_wellOf := goodIn_r _ [5, 6, 7, 8, 9, 4, 10, 11, 12, 13, 14, 15, 16, 17, 18] (by decide +kernel) (by decide +kernel)
set_option maxRecDepth 20000 in
theorem gX7_isLive_X7_wellOf : GoodIn wsX7_isLive (wsV RX7 41 RX7 yX7_wellOf wsX7_wellOf) := goodIn_app (goodIn_of _ (by decide +kernel)) ggX7_isLive_X7_wellOf
theorem dX7_isLive_0 : decode cX7_isLive 0 = .ok (.aload_n 0, 1) := by decide +kernel
theorem dX7_isLive_1 : decode cX7_isLive 1 = .ok (.iload_n 1, 1) := by decide +kernel
theorem dX7_isLive_2 : decode cX7_isLive 2 = .ok (.invokevirtual 41, 3) := by decide +kernel
theorem dX7_isLive_5 : decode cX7_isLive 5 = .ok (.iconst (-1), 1) := by decide +kernel
theorem dX7_isLive_6 : decode cX7_isLive 6 = .ok (.if_icmp .eq 7, 3) := by decide +kernel
theorem dX7_isLive_9 : decode cX7_isLive 9 = .ok (.iconst 1, 1) := by decide +kernel
theorem dX7_isLive_10 : decode cX7_isLive 10 = .ok (.goto 4, 3) := by decide +kernel
theorem dX7_isLive_13 : decode cX7_isLive 13 = .ok (.iconst 0, 1) := by decide +kernel
theorem dX7_isLive_14 : decode cX7_isLive 14 = .ok (.ireturn, 1) := by decide +kernel
set_option maxRecDepth 20000 in
theorem ggX7_parentOf_X7_isSample : GoodIn wsX7_parentOf wsX7_isSample := goodIn_r _ [6, 7, 8, 9, 10, 11, 12, 13, 14] (by decide +kernel) (by decide +kernel)
set_option maxRecDepth 20000 in
theorem gX7_parentOf_X7_isSample : GoodIn wsX7_parentOf (wsV RX7 45 RX7 yX7_isSample wsX7_isSample) := goodIn_app (goodIn_of _ (by decide +kernel)) ggX7_parentOf_X7_isSample
theorem dX7_parentOf_0 : decode cX7_parentOf 0 = .ok (.aload_n 0, 1) := by decide +kernel
theorem dX7_parentOf_1 : decode cX7_parentOf 1 = .ok (.iload_n 1, 1) := by decide +kernel
theorem dX7_parentOf_2 : decode cX7_parentOf 2 = .ok (.invokevirtual 45, 3) := by decide +kernel
theorem dX7_parentOf_5 : decode cX7_parentOf 5 = .ok (.ifCond .eq 12, 3) := by decide +kernel
theorem dX7_parentOf_8 : decode cX7_parentOf 8 = .ok (.aload_n 0, 1) := by decide +kernel
theorem dX7_parentOf_9 : decode cX7_parentOf 9 = .ok (.getfield 9, 3) := by decide +kernel
theorem dX7_parentOf_12 : decode cX7_parentOf 12 = .ok (.iload_n 1, 1) := by decide +kernel
theorem dX7_parentOf_13 : decode cX7_parentOf 13 = .ok (.iaload, 1) := by decide +kernel
theorem dX7_parentOf_14 : decode cX7_parentOf 14 = .ok (.goto 4, 3) := by decide +kernel
theorem dX7_parentOf_17 : decode cX7_parentOf 17 = .ok (.iconst 0, 1) := by decide +kernel
theorem dX7_parentOf_18 : decode cX7_parentOf 18 = .ok (.ireturn, 1) := by decide +kernel
set_option maxRecDepth 20000 in
theorem ggX7_wellOf_X7_isSample : GoodIn wsX7_wellOf wsX7_isSample := goodIn_r _ [6, 7, 8, 9, 10, 11, 12, 13, 14] (by decide +kernel) (by decide +kernel)
set_option maxRecDepth 20000 in
theorem gX7_wellOf_X7_isSample : GoodIn wsX7_wellOf (wsV RX7 45 RX7 yX7_isSample wsX7_isSample) := goodIn_app (goodIn_of _ (by decide +kernel)) ggX7_wellOf_X7_isSample
theorem dX7_wellOf_0 : decode cX7_wellOf 0 = .ok (.aload_n 0, 1) := by decide +kernel
theorem dX7_wellOf_1 : decode cX7_wellOf 1 = .ok (.iload_n 1, 1) := by decide +kernel
theorem dX7_wellOf_2 : decode cX7_wellOf 2 = .ok (.invokevirtual 45, 3) := by decide +kernel
theorem dX7_wellOf_5 : decode cX7_wellOf 5 = .ok (.ifCond .eq 12, 3) := by decide +kernel
theorem dX7_wellOf_8 : decode cX7_wellOf 8 = .ok (.aload_n 0, 1) := by decide +kernel
theorem dX7_wellOf_9 : decode cX7_wellOf 9 = .ok (.getfield 15, 3) := by decide +kernel
theorem dX7_wellOf_12 : decode cX7_wellOf 12 = .ok (.iload_n 1, 1) := by decide +kernel
theorem dX7_wellOf_13 : decode cX7_wellOf 13 = .ok (.iaload, 1) := by decide +kernel
theorem dX7_wellOf_14 : decode cX7_wellOf 14 = .ok (.goto 4, 3) := by decide +kernel
theorem dX7_wellOf_17 : decode cX7_wellOf 17 = .ok (.iconst (-1), 1) := by decide +kernel
theorem dX7_wellOf_18 : decode cX7_wellOf 18 = .ok (.ireturn, 1) := by decide +kernel
set_option maxRecDepth 20000 in
theorem ggX7_volumeOf_X7_isSample : GoodIn wsX7_volumeOf wsX7_isSample := goodIn_r _ [7, 8, 9, 10, 11, 12, 13, 14, 15] (by decide +kernel) (by decide +kernel)
set_option maxRecDepth 20000 in
theorem gX7_volumeOf_X7_isSample : GoodIn wsX7_volumeOf (wsV RX7 45 RX7 yX7_isSample wsX7_isSample) := goodIn_app (goodIn_of _ (by decide +kernel)) ggX7_volumeOf_X7_isSample
theorem dX7_volumeOf_0 : decode cX7_volumeOf 0 = .ok (.aload_n 0, 1) := by decide +kernel
theorem dX7_volumeOf_1 : decode cX7_volumeOf 1 = .ok (.iload_n 1, 1) := by decide +kernel
theorem dX7_volumeOf_2 : decode cX7_volumeOf 2 = .ok (.invokevirtual 45, 3) := by decide +kernel
theorem dX7_volumeOf_5 : decode cX7_volumeOf 5 = .ok (.ifCond .eq 12, 3) := by decide +kernel
theorem dX7_volumeOf_8 : decode cX7_volumeOf 8 = .ok (.aload_n 0, 1) := by decide +kernel
theorem dX7_volumeOf_9 : decode cX7_volumeOf 9 = .ok (.getfield 18, 3) := by decide +kernel
theorem dX7_volumeOf_12 : decode cX7_volumeOf 12 = .ok (.iload_n 1, 1) := by decide +kernel
theorem dX7_volumeOf_13 : decode cX7_volumeOf 13 = .ok (.laload, 1) := by decide +kernel
theorem dX7_volumeOf_14 : decode cX7_volumeOf 14 = .ok (.goto 6, 3) := by decide +kernel
theorem dX7_volumeOf_17 : decode cX7_volumeOf 17 = .ok (.ldc2_w 49, 3) := by decide +kernel
theorem dX7_volumeOf_20 : decode cX7_volumeOf 20 = .ok (.lreturn, 1) := by decide +kernel
set_option maxRecDepth 20000 in
theorem ggX7_sampleIn_X8_isWell : GoodIn wsX7_sampleIn wsX8_isWell := goodIn_r _ [4] (by decide +kernel) (by decide +kernel)
set_option maxRecDepth 20000 in
theorem gX7_sampleIn_X8_isWell_n51 : GoodIn wsX7_sampleIn (wsX8_isWell) := ggX7_sampleIn_X8_isWell
set_option maxRecDepth 20000 in
theorem ggX7_sampleIn_X7_wellOf : GoodIn wsX7_sampleIn wsX7_wellOf := goodIn_r _ [9, 10, 11, 12, 13, 8, 14, 1, 15, 16, 17, 18, 19, 20, 21] (by decide +kernel) (by decide +kernel)
set_option maxRecDepth 20000 in
theorem gX7_sampleIn_X7_wellOf : GoodIn wsX7_sampleIn (wsV RX7 41 RX7 yX7_wellOf wsX7_wellOf) := goodIn_app (goodIn_of _ (by decide +kernel)) ggX7_sampleIn_X7_wellOf
theorem dX7_sampleIn_0 : decode cX7_sampleIn 0 = .ok (.iconst 1, 1) := by decide +kernel
theorem dX7_sampleIn_1 : decode cX7_sampleIn 1 = .ok (.istore_n 2, 1) := by decide +kernel
theorem dX7_sampleIn_2 : decode cX7_sampleIn 2 = .ok (.iload_n 1, 1) := by decide +kernel
theorem dX7_sampleIn_3 : decode cX7_sampleIn 3 = .ok (.invokestatic 51, 3) := by decide +kernel
theorem dX7_sampleIn_6 : decode cX7_sampleIn 6 = .ok (.ifCond .eq 28, 3) := by decide +kernel
theorem dX7_sampleIn_9 : decode cX7_sampleIn 9 = .ok (.iload_n 2, 1) := by decide +kernel
theorem dX7_sampleIn_10 : decode cX7_sampleIn 10 = .ok (.aload_n 0, 1) := by decide +kernel
theorem dX7_sampleIn_11 : decode cX7_sampleIn 11 = .ok (.getfield 33, 3) := by decide +kernel
theorem dX7_sampleIn_14 : decode cX7_sampleIn 14 = .ok (.if_icmp .gt 20, 3) := by decide +kernel
theorem dX7_sampleIn_17 : decode cX7_sampleIn 17 = .ok (.aload_n 0, 1) := by decide +kernel
theorem dX7_sampleIn_18 : decode cX7_sampleIn 18 = .ok (.iload_n 2, 1) := by decide +kernel
theorem dX7_sampleIn_19 : decode cX7_sampleIn 19 = .ok (.invokevirtual 41, 3) := by decide +kernel
theorem dX7_sampleIn_22 : decode cX7_sampleIn 22 = .ok (.iload_n 1, 1) := by decide +kernel
theorem dX7_sampleIn_23 : decode cX7_sampleIn 23 = .ok (.if_icmp .ne 5, 3) := by decide +kernel
theorem dX7_sampleIn_26 : decode cX7_sampleIn 26 = .ok (.iload_n 2, 1) := by decide +kernel
theorem dX7_sampleIn_27 : decode cX7_sampleIn 27 = .ok (.ireturn, 1) := by decide +kernel
theorem dX7_sampleIn_28 : decode cX7_sampleIn 28 = .ok (.iinc 2 1, 3) := by decide +kernel
theorem dX7_sampleIn_31 : decode cX7_sampleIn 31 = .ok (.goto (-29), 3) := by decide +kernel
theorem dX7_sampleIn_34 : decode cX7_sampleIn 34 = .ok (.iconst (-1), 1) := by decide +kernel
theorem dX7_sampleIn_35 : decode cX7_sampleIn 35 = .ok (.ireturn, 1) := by decide +kernel
set_option maxRecDepth 20000 in
theorem ggX7_liveCount_X7_isLive : GoodIn wsX7_liveCount wsX7_isLive := goodIn_r _ [6, 7, 8, 9, 5, 10, 11, 12, 13, 14, 15, 1, 16, 17, 18, 19, 20, 21, 22] (by decide +kernel) (by decide +kernel)
set_option maxRecDepth 20000 in
theorem gX7_liveCount_X7_isLive : GoodIn wsX7_liveCount (wsV RX7 54 RX7 yX7_isLive wsX7_isLive) := goodIn_app (goodIn_of _ (by decide +kernel)) ggX7_liveCount_X7_isLive
theorem dX7_liveCount_0 : decode cX7_liveCount 0 = .ok (.iconst 0, 1) := by decide +kernel
theorem dX7_liveCount_1 : decode cX7_liveCount 1 = .ok (.istore_n 1, 1) := by decide +kernel
theorem dX7_liveCount_2 : decode cX7_liveCount 2 = .ok (.iconst 1, 1) := by decide +kernel
theorem dX7_liveCount_3 : decode cX7_liveCount 3 = .ok (.istore_n 2, 1) := by decide +kernel
theorem dX7_liveCount_4 : decode cX7_liveCount 4 = .ok (.iload_n 2, 1) := by decide +kernel
theorem dX7_liveCount_5 : decode cX7_liveCount 5 = .ok (.aload_n 0, 1) := by decide +kernel
theorem dX7_liveCount_6 : decode cX7_liveCount 6 = .ok (.getfield 33, 3) := by decide +kernel
theorem dX7_liveCount_9 : decode cX7_liveCount 9 = .ok (.if_icmp .gt 25, 3) := by decide +kernel
theorem dX7_liveCount_12 : decode cX7_liveCount 12 = .ok (.iload_n 1, 1) := by decide +kernel
theorem dX7_liveCount_13 : decode cX7_liveCount 13 = .ok (.aload_n 0, 1) := by decide +kernel
theorem dX7_liveCount_14 : decode cX7_liveCount 14 = .ok (.iload_n 2, 1) := by decide +kernel
theorem dX7_liveCount_15 : decode cX7_liveCount 15 = .ok (.invokevirtual 54, 3) := by decide +kernel
theorem dX7_liveCount_18 : decode cX7_liveCount 18 = .ok (.ifCond .eq 7, 3) := by decide +kernel
theorem dX7_liveCount_21 : decode cX7_liveCount 21 = .ok (.iconst 1, 1) := by decide +kernel
theorem dX7_liveCount_22 : decode cX7_liveCount 22 = .ok (.goto 4, 3) := by decide +kernel
theorem dX7_liveCount_25 : decode cX7_liveCount 25 = .ok (.iconst 0, 1) := by decide +kernel
theorem dX7_liveCount_26 : decode cX7_liveCount 26 = .ok (.iadd, 1) := by decide +kernel
theorem dX7_liveCount_27 : decode cX7_liveCount 27 = .ok (.istore_n 1, 1) := by decide +kernel
theorem dX7_liveCount_28 : decode cX7_liveCount 28 = .ok (.iinc 2 1, 3) := by decide +kernel
theorem dX7_liveCount_31 : decode cX7_liveCount 31 = .ok (.goto (-27), 3) := by decide +kernel
theorem dX7_liveCount_34 : decode cX7_liveCount 34 = .ok (.iload_n 1, 1) := by decide +kernel
theorem dX7_liveCount_35 : decode cX7_liveCount 35 = .ok (.ireturn, 1) := by decide +kernel
set_option maxRecDepth 20000 in
theorem ggX7_childrenOf_X7_parentOf : GoodIn wsX7_childrenOf wsX7_parentOf := goodIn_r _ [6, 7, 8, 9, 10, 5, 11, 1, 12, 13, 14, 15, 16, 17, 18] (by decide +kernel) (by decide +kernel)
set_option maxRecDepth 20000 in
theorem gX7_childrenOf_X7_parentOf : GoodIn wsX7_childrenOf (wsV RX7 57 RX7 yX7_parentOf wsX7_parentOf) := goodIn_app (goodIn_of _ (by decide +kernel)) ggX7_childrenOf_X7_parentOf
theorem dX7_childrenOf_0 : decode cX7_childrenOf 0 = .ok (.iconst 0, 1) := by decide +kernel
theorem dX7_childrenOf_1 : decode cX7_childrenOf 1 = .ok (.istore_n 2, 1) := by decide +kernel
theorem dX7_childrenOf_2 : decode cX7_childrenOf 2 = .ok (.iconst 1, 1) := by decide +kernel
theorem dX7_childrenOf_3 : decode cX7_childrenOf 3 = .ok (.istore_n 3, 1) := by decide +kernel
theorem dX7_childrenOf_4 : decode cX7_childrenOf 4 = .ok (.iload_n 3, 1) := by decide +kernel
theorem dX7_childrenOf_5 : decode cX7_childrenOf 5 = .ok (.aload_n 0, 1) := by decide +kernel
theorem dX7_childrenOf_6 : decode cX7_childrenOf 6 = .ok (.getfield 33, 3) := by decide +kernel
theorem dX7_childrenOf_9 : decode cX7_childrenOf 9 = .ok (.if_icmp .gt 26, 3) := by decide +kernel
theorem dX7_childrenOf_12 : decode cX7_childrenOf 12 = .ok (.iload_n 2, 1) := by decide +kernel
theorem dX7_childrenOf_13 : decode cX7_childrenOf 13 = .ok (.aload_n 0, 1) := by decide +kernel
theorem dX7_childrenOf_14 : decode cX7_childrenOf 14 = .ok (.iload_n 3, 1) := by decide +kernel
theorem dX7_childrenOf_15 : decode cX7_childrenOf 15 = .ok (.invokevirtual 57, 3) := by decide +kernel
theorem dX7_childrenOf_18 : decode cX7_childrenOf 18 = .ok (.iload_n 1, 1) := by decide +kernel
theorem dX7_childrenOf_19 : decode cX7_childrenOf 19 = .ok (.if_icmp .ne 7, 3) := by decide +kernel
theorem dX7_childrenOf_22 : decode cX7_childrenOf 22 = .ok (.iconst 1, 1) := by decide +kernel
theorem dX7_childrenOf_23 : decode cX7_childrenOf 23 = .ok (.goto 4, 3) := by decide +kernel
theorem dX7_childrenOf_26 : decode cX7_childrenOf 26 = .ok (.iconst 0, 1) := by decide +kernel
theorem dX7_childrenOf_27 : decode cX7_childrenOf 27 = .ok (.iadd, 1) := by decide +kernel
theorem dX7_childrenOf_28 : decode cX7_childrenOf 28 = .ok (.istore_n 2, 1) := by decide +kernel
theorem dX7_childrenOf_29 : decode cX7_childrenOf 29 = .ok (.iinc 3 1, 3) := by decide +kernel
theorem dX7_childrenOf_32 : decode cX7_childrenOf 32 = .ok (.goto (-28), 3) := by decide +kernel
theorem dX7_childrenOf_35 : decode cX7_childrenOf 35 = .ok (.iload_n 2, 1) := by decide +kernel
theorem dX7_childrenOf_36 : decode cX7_childrenOf 36 = .ok (.ireturn, 1) := by decide +kernel
set_option maxRecDepth 20000 in
theorem ggX7_stepsToOrigin_X7_parentOf : GoodIn wsX7_stepsToOrigin wsX7_parentOf := goodIn_r _ [5, 6, 7, 8, 9, 4, 10, 11, 12, 13, 14, 15, 16, 17, 18] (by decide +kernel) (by decide +kernel)
set_option maxRecDepth 20000 in
theorem gX7_stepsToOrigin_X7_parentOf : GoodIn wsX7_stepsToOrigin (wsV RX7 57 RX7 yX7_parentOf wsX7_parentOf) := goodIn_app (goodIn_of _ (by decide +kernel)) ggX7_stepsToOrigin_X7_parentOf
theorem dX7_stepsToOrigin_0 : decode cX7_stepsToOrigin 0 = .ok (.iconst 0, 1) := by decide +kernel
theorem dX7_stepsToOrigin_1 : decode cX7_stepsToOrigin 1 = .ok (.istore_n 2, 1) := by decide +kernel
theorem dX7_stepsToOrigin_2 : decode cX7_stepsToOrigin 2 = .ok (.iload_n 1, 1) := by decide +kernel
theorem dX7_stepsToOrigin_3 : decode cX7_stepsToOrigin 3 = .ok (.istore_n 3, 1) := by decide +kernel
theorem dX7_stepsToOrigin_4 : decode cX7_stepsToOrigin 4 = .ok (.iload_n 2, 1) := by decide +kernel
theorem dX7_stepsToOrigin_5 : decode cX7_stepsToOrigin 5 = .ok (.bipush 120, 2) := by decide +kernel
theorem dX7_stepsToOrigin_7 : decode cX7_stepsToOrigin 7 = .ok (.if_icmp .ge 23, 3) := by decide +kernel
theorem dX7_stepsToOrigin_10 : decode cX7_stepsToOrigin 10 = .ok (.aload_n 0, 1) := by decide +kernel
theorem dX7_stepsToOrigin_11 : decode cX7_stepsToOrigin 11 = .ok (.iload_n 3, 1) := by decide +kernel
theorem dX7_stepsToOrigin_12 : decode cX7_stepsToOrigin 12 = .ok (.invokevirtual 57, 3) := by decide +kernel
theorem dX7_stepsToOrigin_15 : decode cX7_stepsToOrigin 15 = .ok (.ifCond .eq 15, 3) := by decide +kernel
theorem dX7_stepsToOrigin_18 : decode cX7_stepsToOrigin 18 = .ok (.aload_n 0, 1) := by decide +kernel
theorem dX7_stepsToOrigin_19 : decode cX7_stepsToOrigin 19 = .ok (.iload_n 3, 1) := by decide +kernel
theorem dX7_stepsToOrigin_20 : decode cX7_stepsToOrigin 20 = .ok (.invokevirtual 57, 3) := by decide +kernel
theorem dX7_stepsToOrigin_23 : decode cX7_stepsToOrigin 23 = .ok (.istore_n 3, 1) := by decide +kernel
theorem dX7_stepsToOrigin_24 : decode cX7_stepsToOrigin 24 = .ok (.iinc 2 1, 3) := by decide +kernel
theorem dX7_stepsToOrigin_27 : decode cX7_stepsToOrigin 27 = .ok (.goto (-23), 3) := by decide +kernel
theorem dX7_stepsToOrigin_30 : decode cX7_stepsToOrigin 30 = .ok (.iload_n 2, 1) := by decide +kernel
theorem dX7_stepsToOrigin_31 : decode cX7_stepsToOrigin 31 = .ok (.ireturn, 1) := by decide +kernel
set_option maxRecDepth 20000 in
theorem ggX7_originOf_X7_stepsToOrigin : GoodIn wsX7_originOf wsX7_stepsToOrigin := goodIn_r _ [5, 6, 7, 8, 4, 9, 10, 11, 12, 13, 14, 15, 16, 17, 18, 19, 20, 21, 22] (by decide +kernel) (by decide +kernel)
set_option maxRecDepth 20000 in
theorem gX7_originOf_X7_stepsToOrigin : GoodIn wsX7_originOf (wsV RX7 60 RX7 yX7_stepsToOrigin wsX7_stepsToOrigin) := goodIn_app (goodIn_of _ (by decide +kernel)) ggX7_originOf_X7_stepsToOrigin
set_option maxRecDepth 20000 in
theorem ggX7_originOf_X7_parentOf : GoodIn wsX7_originOf wsX7_parentOf := goodIn_r _ [9, 10, 11, 12, 13, 4, 14, 15, 16, 17, 18, 19, 20, 21, 22] (by decide +kernel) (by decide +kernel)
set_option maxRecDepth 20000 in
theorem gX7_originOf_X7_parentOf : GoodIn wsX7_originOf (wsV RX7 57 RX7 yX7_parentOf wsX7_parentOf) := goodIn_app (goodIn_of _ (by decide +kernel)) ggX7_originOf_X7_parentOf
theorem dX7_originOf_0 : decode cX7_originOf 0 = .ok (.iload_n 1, 1) := by decide +kernel
theorem dX7_originOf_1 : decode cX7_originOf 1 = .ok (.istore_n 2, 1) := by decide +kernel
theorem dX7_originOf_2 : decode cX7_originOf 2 = .ok (.aload_n 0, 1) := by decide +kernel
theorem dX7_originOf_3 : decode cX7_originOf 3 = .ok (.iload_n 1, 1) := by decide +kernel
theorem dX7_originOf_4 : decode cX7_originOf 4 = .ok (.invokevirtual 60, 3) := by decide +kernel
theorem dX7_originOf_7 : decode cX7_originOf 7 = .ok (.istore_n 3, 1) := by decide +kernel
theorem dX7_originOf_8 : decode cX7_originOf 8 = .ok (.iload_n 3, 1) := by decide +kernel
theorem dX7_originOf_9 : decode cX7_originOf 9 = .ok (.ifCond .le 15, 3) := by decide +kernel
theorem dX7_originOf_12 : decode cX7_originOf 12 = .ok (.aload_n 0, 1) := by decide +kernel
theorem dX7_originOf_13 : decode cX7_originOf 13 = .ok (.iload_n 2, 1) := by decide +kernel
theorem dX7_originOf_14 : decode cX7_originOf 14 = .ok (.invokevirtual 57, 3) := by decide +kernel
theorem dX7_originOf_17 : decode cX7_originOf 17 = .ok (.istore_n 2, 1) := by decide +kernel
theorem dX7_originOf_18 : decode cX7_originOf 18 = .ok (.iinc 3 (-1), 3) := by decide +kernel
theorem dX7_originOf_21 : decode cX7_originOf 21 = .ok (.goto (-13), 3) := by decide +kernel
theorem dX7_originOf_24 : decode cX7_originOf 24 = .ok (.iload_n 2, 1) := by decide +kernel
theorem dX7_originOf_25 : decode cX7_originOf 25 = .ok (.ireturn, 1) := by decide +kernel
set_option maxRecDepth 20000 in
theorem ggX7_liveVolume_X7_volumeOf : GoodIn wsX7_liveVolume wsX7_volumeOf := goodIn_r _ [6, 7, 8, 9, 10, 11, 5, 12, 1, 13, 14, 15, 16, 17, 18, 19] (by decide +kernel) (by decide +kernel)
set_option maxRecDepth 20000 in
theorem gX7_liveVolume_X7_volumeOf : GoodIn wsX7_liveVolume (wsV RX7 63 RX7 yX7_volumeOf wsX7_volumeOf) := goodIn_app (goodIn_of _ (by decide +kernel)) ggX7_liveVolume_X7_volumeOf
theorem dX7_liveVolume_0 : decode cX7_liveVolume 0 = .ok (.lconst 0, 1) := by decide +kernel
theorem dX7_liveVolume_1 : decode cX7_liveVolume 1 = .ok (.lstore_n 1, 1) := by decide +kernel
theorem dX7_liveVolume_2 : decode cX7_liveVolume 2 = .ok (.iconst 1, 1) := by decide +kernel
theorem dX7_liveVolume_3 : decode cX7_liveVolume 3 = .ok (.istore_n 3, 1) := by decide +kernel
theorem dX7_liveVolume_4 : decode cX7_liveVolume 4 = .ok (.iload_n 3, 1) := by decide +kernel
theorem dX7_liveVolume_5 : decode cX7_liveVolume 5 = .ok (.aload_n 0, 1) := by decide +kernel
theorem dX7_liveVolume_6 : decode cX7_liveVolume 6 = .ok (.getfield 33, 3) := by decide +kernel
theorem dX7_liveVolume_9 : decode cX7_liveVolume 9 = .ok (.if_icmp .gt 17, 3) := by decide +kernel
theorem dX7_liveVolume_12 : decode cX7_liveVolume 12 = .ok (.lload_n 1, 1) := by decide +kernel
theorem dX7_liveVolume_13 : decode cX7_liveVolume 13 = .ok (.aload_n 0, 1) := by decide +kernel
theorem dX7_liveVolume_14 : decode cX7_liveVolume 14 = .ok (.iload_n 3, 1) := by decide +kernel
theorem dX7_liveVolume_15 : decode cX7_liveVolume 15 = .ok (.invokevirtual 63, 3) := by decide +kernel
theorem dX7_liveVolume_18 : decode cX7_liveVolume 18 = .ok (.ladd, 1) := by decide +kernel
theorem dX7_liveVolume_19 : decode cX7_liveVolume 19 = .ok (.lstore_n 1, 1) := by decide +kernel
theorem dX7_liveVolume_20 : decode cX7_liveVolume 20 = .ok (.iinc 3 1, 3) := by decide +kernel
theorem dX7_liveVolume_23 : decode cX7_liveVolume 23 = .ok (.goto (-19), 3) := by decide +kernel
theorem dX7_liveVolume_26 : decode cX7_liveVolume 26 = .ok (.lload_n 1, 1) := by decide +kernel
theorem dX7_liveVolume_27 : decode cX7_liveVolume 27 = .ok (.lreturn, 1) := by decide +kernel
theorem dX7_lostVolume_0 : decode cX7_lostVolume 0 = .ok (.aload_n 0, 1) := by decide +kernel
theorem dX7_lostVolume_1 : decode cX7_lostVolume 1 = .ok (.getfield 37, 3) := by decide +kernel
theorem dX7_lostVolume_4 : decode cX7_lostVolume 4 = .ok (.lreturn, 1) := by decide +kernel
set_option maxRecDepth 20000 in
theorem ggX7_volumeStillAllowed_X7_liveVolume : GoodIn wsX7_volumeStillAllowed wsX7_liveVolume := goodIn_r _ [7, 8, 9, 10, 11, 6, 12, 13, 14, 15, 16, 17, 18, 19, 20, 21, 22, 23, 24, 25] (by decide +kernel) (by decide +kernel)
set_option maxRecDepth 20000 in
theorem gX7_volumeStillAllowed_X7_liveVolume : GoodIn wsX7_volumeStillAllowed (wsV RX7 71 RX7 yX7_liveVolume wsX7_liveVolume) := goodIn_app (goodIn_of _ (by decide +kernel)) ggX7_volumeStillAllowed_X7_liveVolume
theorem dX7_volumeStillAllowed_0 : decode cX7_volumeStillAllowed 0 = .ok (.ldc2_w 69, 3) := by decide +kernel
theorem dX7_volumeStillAllowed_3 : decode cX7_volumeStillAllowed 3 = .ok (.aload_n 0, 1) := by decide +kernel
theorem dX7_volumeStillAllowed_4 : decode cX7_volumeStillAllowed 4 = .ok (.invokevirtual 71, 3) := by decide +kernel
theorem dX7_volumeStillAllowed_7 : decode cX7_volumeStillAllowed 7 = .ok (.lsub, 1) := by decide +kernel
theorem dX7_volumeStillAllowed_8 : decode cX7_volumeStillAllowed 8 = .ok (.aload_n 0, 1) := by decide +kernel
theorem dX7_volumeStillAllowed_9 : decode cX7_volumeStillAllowed 9 = .ok (.getfield 37, 3) := by decide +kernel
theorem dX7_volumeStillAllowed_12 : decode cX7_volumeStillAllowed 12 = .ok (.lsub, 1) := by decide +kernel
theorem dX7_volumeStillAllowed_13 : decode cX7_volumeStillAllowed 13 = .ok (.lreturn, 1) := by decide +kernel
set_option maxRecDepth 20000 in
theorem ggX7_volumeOfFamily_X7_isSample : GoodIn wsX7_volumeOfFamily wsX7_isSample := goodIn_r _ [9, 2, 15, 16, 17, 18, 19, 20, 21] (by decide +kernel) (by decide +kernel)
set_option maxRecDepth 20000 in
theorem gX7_volumeOfFamily_X7_isSample : GoodIn wsX7_volumeOfFamily (wsV RX7 45 RX7 yX7_isSample wsX7_isSample) := goodIn_app (goodIn_of _ (by decide +kernel)) ggX7_volumeOfFamily_X7_isSample
set_option maxRecDepth 20000 in
theorem ggX7_volumeOfFamily_X7_parentOf : GoodIn wsX7_volumeOfFamily wsX7_parentOf := goodIn_r _ [13, 14, 5, 6, 7, 8, 9, 2, 15, 16, 17, 18, 19, 20, 21] (by decide +kernel) (by decide +kernel)
set_option maxRecDepth 20000 in
theorem gX7_volumeOfFamily_X7_parentOf : GoodIn wsX7_volumeOfFamily (wsV RX7 57 RX7 yX7_parentOf wsX7_parentOf) := goodIn_app (goodIn_of _ (by decide +kernel)) ggX7_volumeOfFamily_X7_parentOf
theorem dX7_volumeOfFamily_0 : decode cX7_volumeOfFamily 0 = .ok (.aload_n 0, 1) := by decide +kernel
theorem dX7_volumeOfFamily_1 : decode cX7_volumeOfFamily 1 = .ok (.iload_n 1, 1) := by decide +kernel
theorem dX7_volumeOfFamily_2 : decode cX7_volumeOfFamily 2 = .ok (.invokevirtual 45, 3) := by decide +kernel
theorem dX7_volumeOfFamily_5 : decode cX7_volumeOfFamily 5 = .ok (.ifCond .ne 7, 3) := by decide +kernel
theorem dX7_volumeOfFamily_8 : decode cX7_volumeOfFamily 8 = .ok (.ldc2_w 49, 3) := by decide +kernel
theorem dX7_volumeOfFamily_11 : decode cX7_volumeOfFamily 11 = .ok (.lreturn, 1) := by decide +kernel
theorem dX7_volumeOfFamily_12 : decode cX7_volumeOfFamily 12 = .ok (.lconst 0, 1) := by decide +kernel
theorem dX7_volumeOfFamily_13 : decode cX7_volumeOfFamily 13 = .ok (.lstore_n 2, 1) := by decide +kernel
theorem dX7_volumeOfFamily_14 : decode cX7_volumeOfFamily 14 = .ok (.iconst 1, 1) := by decide +kernel
theorem dX7_volumeOfFamily_15 : decode cX7_volumeOfFamily 15 = .ok (.istore 4, 2) := by decide +kernel
theorem dX7_volumeOfFamily_17 : decode cX7_volumeOfFamily 17 = .ok (.iload 4, 2) := by decide +kernel
theorem dX7_volumeOfFamily_19 : decode cX7_volumeOfFamily 19 = .ok (.aload_n 0, 1) := by decide +kernel
theorem dX7_volumeOfFamily_20 : decode cX7_volumeOfFamily 20 = .ok (.getfield 33, 3) := by decide +kernel
theorem dX7_volumeOfFamily_23 : decode cX7_volumeOfFamily 23 = .ok (.if_icmp .gt 85, 3) := by decide +kernel
theorem dX7_volumeOfFamily_26 : decode cX7_volumeOfFamily 26 = .ok (.iload 4, 2) := by decide +kernel
theorem dX7_volumeOfFamily_28 : decode cX7_volumeOfFamily 28 = .ok (.bipush 120, 2) := by decide +kernel
theorem dX7_volumeOfFamily_30 : decode cX7_volumeOfFamily 30 = .ok (.if_icmp .gt 78, 3) := by decide +kernel
theorem dX7_volumeOfFamily_33 : decode cX7_volumeOfFamily 33 = .ok (.aload_n 0, 1) := by decide +kernel
theorem dX7_volumeOfFamily_34 : decode cX7_volumeOfFamily 34 = .ok (.iload 4, 2) := by decide +kernel
theorem dX7_volumeOfFamily_36 : decode cX7_volumeOfFamily 36 = .ok (.invokevirtual 57, 3) := by decide +kernel
theorem dX7_volumeOfFamily_39 : decode cX7_volumeOfFamily 39 = .ok (.istore 5, 2) := by decide +kernel
theorem dX7_volumeOfFamily_41 : decode cX7_volumeOfFamily 41 = .ok (.aload_n 0, 1) := by decide +kernel
theorem dX7_volumeOfFamily_42 : decode cX7_volumeOfFamily 42 = .ok (.getfield 22, 3) := by decide +kernel
theorem dX7_volumeOfFamily_45 : decode cX7_volumeOfFamily 45 = .ok (.iload 4, 2) := by decide +kernel
theorem dX7_volumeOfFamily_47 : decode cX7_volumeOfFamily 47 = .ok (.iload 4, 2) := by decide +kernel
theorem dX7_volumeOfFamily_49 : decode cX7_volumeOfFamily 49 = .ok (.iload_n 1, 1) := by decide +kernel
theorem dX7_volumeOfFamily_50 : decode cX7_volumeOfFamily 50 = .ok (.if_icmp .eq 22, 3) := by decide +kernel
theorem dX7_volumeOfFamily_53 : decode cX7_volumeOfFamily 53 = .ok (.aload_n 0, 1) := by decide +kernel
theorem dX7_volumeOfFamily_54 : decode cX7_volumeOfFamily 54 = .ok (.iload 5, 2) := by decide +kernel
theorem dX7_volumeOfFamily_56 : decode cX7_volumeOfFamily 56 = .ok (.invokevirtual 45, 3) := by decide +kernel
theorem dX7_volumeOfFamily_59 : decode cX7_volumeOfFamily 59 = .ok (.ifCond .eq 17, 3) := by decide +kernel
theorem dX7_volumeOfFamily_62 : decode cX7_volumeOfFamily 62 = .ok (.aload_n 0, 1) := by decide +kernel
theorem dX7_volumeOfFamily_63 : decode cX7_volumeOfFamily 63 = .ok (.getfield 22, 3) := by decide +kernel
theorem dX7_volumeOfFamily_66 : decode cX7_volumeOfFamily 66 = .ok (.iload 5, 2) := by decide +kernel
theorem dX7_volumeOfFamily_68 : decode cX7_volumeOfFamily 68 = .ok (.baload, 1) := by decide +kernel
theorem dX7_volumeOfFamily_69 : decode cX7_volumeOfFamily 69 = .ok (.ifCond .eq 7, 3) := by decide +kernel
theorem dX7_volumeOfFamily_72 : decode cX7_volumeOfFamily 72 = .ok (.iconst 1, 1) := by decide +kernel
theorem dX7_volumeOfFamily_73 : decode cX7_volumeOfFamily 73 = .ok (.goto 4, 3) := by decide +kernel
theorem dX7_volumeOfFamily_76 : decode cX7_volumeOfFamily 76 = .ok (.iconst 0, 1) := by decide +kernel
theorem dX7_volumeOfFamily_77 : decode cX7_volumeOfFamily 77 = .ok (.bastore, 1) := by decide +kernel
theorem dX7_volumeOfFamily_78 : decode cX7_volumeOfFamily 78 = .ok (.lload_n 2, 1) := by decide +kernel
theorem dX7_volumeOfFamily_79 : decode cX7_volumeOfFamily 79 = .ok (.aload_n 0, 1) := by decide +kernel
theorem dX7_volumeOfFamily_80 : decode cX7_volumeOfFamily 80 = .ok (.getfield 22, 3) := by decide +kernel
theorem dX7_volumeOfFamily_83 : decode cX7_volumeOfFamily 83 = .ok (.iload 4, 2) := by decide +kernel
theorem dX7_volumeOfFamily_85 : decode cX7_volumeOfFamily 85 = .ok (.baload, 1) := by decide +kernel
theorem dX7_volumeOfFamily_86 : decode cX7_volumeOfFamily 86 = .ok (.ifCond .eq 13, 3) := by decide +kernel
theorem dX7_volumeOfFamily_89 : decode cX7_volumeOfFamily 89 = .ok (.aload_n 0, 1) := by decide +kernel
theorem dX7_volumeOfFamily_90 : decode cX7_volumeOfFamily 90 = .ok (.getfield 18, 3) := by decide +kernel
theorem dX7_volumeOfFamily_93 : decode cX7_volumeOfFamily 93 = .ok (.iload 4, 2) := by decide +kernel
theorem dX7_volumeOfFamily_95 : decode cX7_volumeOfFamily 95 = .ok (.laload, 1) := by decide +kernel
theorem dX7_volumeOfFamily_96 : decode cX7_volumeOfFamily 96 = .ok (.goto 4, 3) := by decide +kernel
theorem dX7_volumeOfFamily_99 : decode cX7_volumeOfFamily 99 = .ok (.lconst 0, 1) := by decide +kernel
theorem dX7_volumeOfFamily_100 : decode cX7_volumeOfFamily 100 = .ok (.ladd, 1) := by decide +kernel
theorem dX7_volumeOfFamily_101 : decode cX7_volumeOfFamily 101 = .ok (.lstore_n 2, 1) := by decide +kernel
theorem dX7_volumeOfFamily_102 : decode cX7_volumeOfFamily 102 = .ok (.iinc 4 1, 3) := by decide +kernel
theorem dX7_volumeOfFamily_105 : decode cX7_volumeOfFamily 105 = .ok (.goto (-88), 3) := by decide +kernel
theorem dX7_volumeOfFamily_108 : decode cX7_volumeOfFamily 108 = .ok (.lload_n 2, 1) := by decide +kernel
theorem dX7_volumeOfFamily_109 : decode cX7_volumeOfFamily 109 = .ok (.lreturn, 1) := by decide +kernel
set_option maxRecDepth 20000 in
theorem ggX7_pastActs_X4_size : GoodIn wsX7_pastActs wsX4_size := goodIn_r _ [6, 7, 15, 16, 17, 18, 19, 20] (by decide +kernel) (by decide +kernel)
set_option maxRecDepth 20000 in
theorem gX7_pastActs_X4_size : GoodIn wsX7_pastActs (wsV RX7 75 RX4 yX4_size wsX4_size) := goodIn_app (goodIn_of _ (by decide +kernel)) ggX7_pastActs_X4_size
theorem dX7_pastActs_0 : decode cX7_pastActs 0 = .ok (.aload_n 0, 1) := by decide +kernel
theorem dX7_pastActs_1 : decode cX7_pastActs 1 = .ok (.getfield 29, 3) := by decide +kernel
theorem dX7_pastActs_4 : decode cX7_pastActs 4 = .ok (.invokevirtual 75, 3) := by decide +kernel
theorem dX7_pastActs_7 : decode cX7_pastActs 7 = .ok (.ireturn, 1) := by decide +kernel
set_option maxRecDepth 20000 in
theorem ggX7_forgetPast_X4_forget : GoodIn wsX7_forgetPast wsX4_forget := goodIn_r _ [6, 7, 15, 16, 17, 18, 19, 20] (by decide +kernel) (by decide +kernel)
set_option maxRecDepth 20000 in
theorem gX7_forgetPast_X4_forget : GoodIn wsX7_forgetPast (wsV RX7 79 RX4 yX4_forget wsX4_forget) := goodIn_app (goodIn_of _ (by decide +kernel)) ggX7_forgetPast_X4_forget
theorem dX7_forgetPast_0 : decode cX7_forgetPast 0 = .ok (.aload_n 0, 1) := by decide +kernel
theorem dX7_forgetPast_1 : decode cX7_forgetPast 1 = .ok (.getfield 29, 3) := by decide +kernel
theorem dX7_forgetPast_4 : decode cX7_forgetPast 4 = .ok (.invokevirtual 79, 3) := by decide +kernel
theorem dX7_forgetPast_7 : decode cX7_forgetPast 7 = .ok (.return_, 1) := by decide +kernel
set_option maxRecDepth 20000 in
theorem ggX7_makeEmpty_X4_forget : GoodIn wsX7_makeEmpty wsX4_forget := goodIn_r _ [8, 9, 17, 18, 19, 20, 21, 22] (by decide +kernel) (by decide +kernel)
set_option maxRecDepth 20000 in
theorem gX7_makeEmpty_X4_forget : GoodIn wsX7_makeEmpty (wsV RX7 79 RX4 yX4_forget wsX4_forget) := goodIn_app (goodIn_of _ (by decide +kernel)) ggX7_makeEmpty_X4_forget
theorem dX7_makeEmpty_0 : decode cX7_makeEmpty 0 = .ok (.aload_n 0, 1) := by decide +kernel
theorem dX7_makeEmpty_1 : decode cX7_makeEmpty 1 = .ok (.iconst 0, 1) := by decide +kernel
theorem dX7_makeEmpty_2 : decode cX7_makeEmpty 2 = .ok (.putfield 33, 3) := by decide +kernel
theorem dX7_makeEmpty_5 : decode cX7_makeEmpty 5 = .ok (.aload_n 0, 1) := by decide +kernel
theorem dX7_makeEmpty_6 : decode cX7_makeEmpty 6 = .ok (.lconst 0, 1) := by decide +kernel
theorem dX7_makeEmpty_7 : decode cX7_makeEmpty 7 = .ok (.putfield 37, 3) := by decide +kernel
theorem dX7_makeEmpty_10 : decode cX7_makeEmpty 10 = .ok (.aload_n 0, 1) := by decide +kernel
theorem dX7_makeEmpty_11 : decode cX7_makeEmpty 11 = .ok (.getfield 29, 3) := by decide +kernel
theorem dX7_makeEmpty_14 : decode cX7_makeEmpty 14 = .ok (.invokevirtual 79, 3) := by decide +kernel
theorem dX7_makeEmpty_17 : decode cX7_makeEmpty 17 = .ok (.return_, 1) := by decide +kernel
set_option maxRecDepth 20000 in
theorem ggX7_apply_X7_applyRegister : GoodIn wsX7_apply wsX7_applyRegister := goodIn_r _ [6, 7, 8, 9, 5, 10, 11, 12, 1, 13, 14, 15, 16, 17, 18, 19, 20, 21, 22, 23, 24, 25, 26, 27, 28, 29, 30, 31, 32, 33, 34, 35, 36, 37, 38, 39, 40, 41, 42, 43, 44, 45, 46, 47, 92, 93, 94, 95, 96, 97, 98, 99, 100, 101, 102, 103, 104, 105, 106, 107, 108] (by decide +kernel) (by decide +kernel)
set_option maxRecDepth 20000 in
theorem gX7_apply_X7_applyRegister : GoodIn wsX7_apply (wsV RX7 87 RX7 yX7_applyRegister wsX7_applyRegister) := goodIn_app (goodIn_of _ (by decide +kernel)) ggX7_apply_X7_applyRegister
set_option maxRecDepth 20000 in
theorem ggX7_apply_X7_applyAliquot : GoodIn wsX7_apply wsX7_applyAliquot := goodIn_r _ [51, 26, 18, 19, 20, 5, 21, 12, 7, 8, 9, 10, 11, 1, 13, 14, 15, 16, 17, 22, 23, 24, 25, 27, 28, 29, 30, 31, 32, 33, 34, 35, 36, 37, 38, 39, 40, 41, 42, 43, 44, 45, 46, 47, 92, 93, 94, 95, 96, 97, 98, 99, 100, 101, 102, 103, 104, 105, 106, 107, 108] (by decide +kernel) (by decide +kernel)
set_option maxRecDepth 20000 in
theorem gX7_apply_X7_applyAliquot : GoodIn wsX7_apply (wsV RX7 91 RX7 yX7_applyAliquot wsX7_applyAliquot) := goodIn_app (goodIn_of _ (by decide +kernel)) ggX7_apply_X7_applyAliquot
set_option maxRecDepth 20000 in
theorem ggX7_apply_X7_applyMove : GoodIn wsX7_apply wsX7_applyMove := goodIn_r _ [55, 17, 18, 19, 20, 5, 21, 12, 7, 8, 9, 10, 11, 1, 13, 14, 15, 16, 22, 23, 24, 25, 26, 27, 28, 29, 30, 31, 32, 33, 34, 35, 36, 37, 38, 92, 93, 94, 95, 96, 97, 98, 99, 100, 101, 102, 103, 104, 105, 106, 107, 108] (by decide +kernel) (by decide +kernel)
set_option maxRecDepth 20000 in
theorem gX7_apply_X7_applyMove : GoodIn wsX7_apply (wsV RX7 94 RX7 yX7_applyMove wsX7_applyMove) := goodIn_app (goodIn_of _ (by decide +kernel)) ggX7_apply_X7_applyMove
set_option maxRecDepth 20000 in
theorem ggX7_apply_X7_applyDiscard : GoodIn wsX7_apply wsX7_applyDiscard := goodIn_r _ [59, 1, 26, 17, 18, 19, 20, 5, 21, 12, 7, 8, 9, 10, 11, 13, 14, 15, 16, 22, 23, 24, 25, 27, 28, 29, 30, 31, 32, 33, 34, 35, 36, 37, 38, 92, 93, 94, 95, 96, 97, 98, 99, 100, 101, 102, 103, 104, 105, 106, 107, 108] (by decide +kernel) (by decide +kernel)
set_option maxRecDepth 20000 in
theorem gX7_apply_X7_applyDiscard : GoodIn wsX7_apply (wsV RX7 97 RX7 yX7_applyDiscard wsX7_applyDiscard) := goodIn_app (goodIn_of _ (by decide +kernel)) ggX7_apply_X7_applyDiscard
set_option maxRecDepth 20000 in
theorem ggX7_apply_X7_applyUndo : GoodIn wsX7_apply wsX7_applyUndo := goodIn_r _ [63, 11, 12, 1, 17, 26, 64, 65, 66, 31, 67, 33, 68, 69, 70, 71, 34, 72, 73, 74, 75, 35, 76, 77, 78, 79, 36, 18, 19, 20, 5, 21, 80, 81, 82, 83, 37, 84, 85, 86, 87, 38, 96, 97, 98, 99, 100, 101, 102, 103, 104, 105, 106, 107, 108] (by decide +kernel) (by decide +kernel)
set_option maxRecDepth 20000 in
theorem gX7_apply_X7_applyUndo : GoodIn wsX7_apply (wsV RX7 100 RX7 yX7_applyUndo wsX7_applyUndo) := goodIn_app (goodIn_of _ (by decide +kernel)) ggX7_apply_X7_applyUndo
set_option maxRecDepth 20000 in
theorem ggX7_apply_X7_applyKept : GoodIn wsX7_apply wsX7_applyKept := goodIn_r _ [91, 39, 40, 41, 5, 42, 12, 43, 17, 26, 44, 45, 46, 47, 92, 93, 94, 95, 96, 97, 98, 99, 100, 101, 102] (by decide +kernel) (by decide +kernel)
set_option maxRecDepth 20000 in
theorem gX7_apply_X7_applyKept : GoodIn wsX7_apply (wsV RX7 103 RX7 yX7_applyKept wsX7_applyKept) := goodIn_app (goodIn_of _ (by decide +kernel)) ggX7_apply_X7_applyKept
theorem dX7_apply_0 : decode cX7_apply 0 = .ok (.aload_n 1, 1) := by decide +kernel
theorem dX7_apply_1 : decode cX7_apply 1 = .ok (.getfield 82, 3) := by decide +kernel
theorem dX7_apply_4 : decode cX7_apply 4 = .ok (.tableswitch 102 1 7 #[44, 52, 60, 68, 76, 83, 91], 44) := by decide +kernel
theorem dX7_apply_48 : decode cX7_apply 48 = .ok (.aload_n 0, 1) := by decide +kernel
theorem dX7_apply_49 : decode cX7_apply 49 = .ok (.aload_n 1, 1) := by decide +kernel
theorem dX7_apply_50 : decode cX7_apply 50 = .ok (.invokevirtual 87, 3) := by decide +kernel
theorem dX7_apply_53 : decode cX7_apply 53 = .ok (.goto 53, 3) := by decide +kernel
theorem dX7_apply_56 : decode cX7_apply 56 = .ok (.aload_n 0, 1) := by decide +kernel
theorem dX7_apply_57 : decode cX7_apply 57 = .ok (.aload_n 1, 1) := by decide +kernel
theorem dX7_apply_58 : decode cX7_apply 58 = .ok (.invokevirtual 91, 3) := by decide +kernel
theorem dX7_apply_61 : decode cX7_apply 61 = .ok (.goto 45, 3) := by decide +kernel
theorem dX7_apply_64 : decode cX7_apply 64 = .ok (.aload_n 0, 1) := by decide +kernel
theorem dX7_apply_65 : decode cX7_apply 65 = .ok (.aload_n 1, 1) := by decide +kernel
theorem dX7_apply_66 : decode cX7_apply 66 = .ok (.invokevirtual 94, 3) := by decide +kernel
theorem dX7_apply_69 : decode cX7_apply 69 = .ok (.goto 37, 3) := by decide +kernel
theorem dX7_apply_72 : decode cX7_apply 72 = .ok (.aload_n 0, 1) := by decide +kernel
theorem dX7_apply_73 : decode cX7_apply 73 = .ok (.aload_n 1, 1) := by decide +kernel
theorem dX7_apply_74 : decode cX7_apply 74 = .ok (.invokevirtual 97, 3) := by decide +kernel
theorem dX7_apply_77 : decode cX7_apply 77 = .ok (.goto 29, 3) := by decide +kernel
theorem dX7_apply_80 : decode cX7_apply 80 = .ok (.aload_n 0, 1) := by decide +kernel
theorem dX7_apply_81 : decode cX7_apply 81 = .ok (.invokevirtual 100, 3) := by decide +kernel
theorem dX7_apply_84 : decode cX7_apply 84 = .ok (.goto 22, 3) := by decide +kernel
theorem dX7_apply_87 : decode cX7_apply 87 = .ok (.aload_n 0, 1) := by decide +kernel
theorem dX7_apply_88 : decode cX7_apply 88 = .ok (.aload_n 1, 1) := by decide +kernel
theorem dX7_apply_89 : decode cX7_apply 89 = .ok (.invokevirtual 103, 3) := by decide +kernel
theorem dX7_apply_92 : decode cX7_apply 92 = .ok (.goto 14, 3) := by decide +kernel
theorem dX7_apply_95 : decode cX7_apply 95 = .ok (.aload_n 0, 1) := by decide +kernel
theorem dX7_apply_96 : decode cX7_apply 96 = .ok (.aload_n 1, 1) := by decide +kernel
theorem dX7_apply_97 : decode cX7_apply 97 = .ok (.getfield 106, 3) := by decide +kernel
theorem dX7_apply_100 : decode cX7_apply 100 = .ok (.putfield 37, 3) := by decide +kernel
theorem dX7_apply_103 : decode cX7_apply 103 = .ok (.goto 3, 3) := by decide +kernel
theorem dX7_apply_106 : decode cX7_apply 106 = .ok (.return_, 1) := by decide +kernel
set_option maxRecDepth 20000 in
theorem ggX7_applyRegister_X7_remember : GoodIn wsX7_applyRegister wsX7_remember := goodIn_r _ [5, 6, 7, 8, 9, 10, 11, 4, 12, 13, 14, 15, 16, 17, 18, 19, 20, 21, 22, 23, 24, 25, 26, 27, 28, 29, 30, 31, 32, 33, 34, 48, 49, 50, 51, 52, 53, 54, 55, 56, 57, 58, 59, 60] (by decide +kernel) (by decide +kernel)
set_option maxRecDepth 20000 in
theorem gX7_applyRegister_X7_remember : GoodIn wsX7_applyRegister (wsV RX7 109 RX7 yX7_remember wsX7_remember) := goodIn_app (goodIn_of _ (by decide +kernel)) ggX7_applyRegister_X7_remember
set_option maxRecDepth 20000 in
theorem ggX7_applyRegister_X7_addSample : GoodIn wsX7_applyRegister wsX7_addSample := goodIn_r _ [38, 7, 39, 13, 22, 40, 41, 42, 4, 43, 48, 49, 50, 51, 52, 53, 54] (by decide +kernel) (by decide +kernel)
set_option maxRecDepth 20000 in
theorem gX7_applyRegister_X7_addSample : GoodIn wsX7_applyRegister (wsV RX7 116 RX7 yX7_addSample wsX7_addSample) := goodIn_app (goodIn_of _ (by decide +kernel)) ggX7_applyRegister_X7_addSample
theorem dX7_applyRegister_0 : decode cX7_applyRegister 0 = .ok (.aload_n 0, 1) := by decide +kernel
theorem dX7_applyRegister_1 : decode cX7_applyRegister 1 = .ok (.iconst 0, 1) := by decide +kernel
theorem dX7_applyRegister_2 : decode cX7_applyRegister 2 = .ok (.invokevirtual 109, 3) := by decide +kernel
theorem dX7_applyRegister_5 : decode cX7_applyRegister 5 = .ok (.aload_n 0, 1) := by decide +kernel
theorem dX7_applyRegister_6 : decode cX7_applyRegister 6 = .ok (.iconst 0, 1) := by decide +kernel
theorem dX7_applyRegister_7 : decode cX7_applyRegister 7 = .ok (.aload_n 1, 1) := by decide +kernel
theorem dX7_applyRegister_8 : decode cX7_applyRegister 8 = .ok (.getfield 113, 3) := by decide +kernel
theorem dX7_applyRegister_11 : decode cX7_applyRegister 11 = .ok (.aload_n 1, 1) := by decide +kernel
theorem dX7_applyRegister_12 : decode cX7_applyRegister 12 = .ok (.getfield 106, 3) := by decide +kernel
theorem dX7_applyRegister_15 : decode cX7_applyRegister 15 = .ok (.invokevirtual 116, 3) := by decide +kernel
theorem dX7_applyRegister_18 : decode cX7_applyRegister 18 = .ok (.return_, 1) := by decide +kernel
set_option maxRecDepth 20000 in
theorem ggX7_applyAliquot_X7_isSample : GoodIn wsX7_applyAliquot wsX7_isSample := goodIn_r _ [6, 7, 48, 49, 50, 51, 52, 53, 54] (by decide +kernel) (by decide +kernel)
set_option maxRecDepth 20000 in
theorem gX7_applyAliquot_X7_isSample : GoodIn wsX7_applyAliquot (wsV RX7 45 RX7 yX7_isSample wsX7_isSample) := goodIn_app (goodIn_of _ (by decide +kernel)) ggX7_applyAliquot_X7_isSample
set_option maxRecDepth 20000 in
theorem ggX7_applyAliquot_X7_remember : GoodIn wsX7_applyAliquot wsX7_remember := goodIn_r _ [11, 12, 7, 13, 14, 15, 16, 5, 17, 18, 2, 3, 4, 6, 19, 20, 21, 22, 1, 23, 24, 25, 26, 27, 28, 29, 30, 31, 32, 33, 34, 48, 49, 50, 51, 52, 53, 54, 55, 56, 57, 58, 59, 60] (by decide +kernel) (by decide +kernel)
set_option maxRecDepth 20000 in
theorem gX7_applyAliquot_X7_remember : GoodIn wsX7_applyAliquot (wsV RX7 109 RX7 yX7_remember wsX7_remember) := goodIn_app (goodIn_of _ (by decide +kernel)) ggX7_applyAliquot_X7_remember
set_option maxRecDepth 20000 in
theorem ggX7_applyAliquot_X7_addSample : GoodIn wsX7_applyAliquot wsX7_addSample := goodIn_r _ [38, 7, 39, 18, 1, 40, 41, 42, 5, 43, 48, 49, 50, 51, 52, 53, 54] (by decide +kernel) (by decide +kernel)
set_option maxRecDepth 20000 in
theorem gX7_applyAliquot_X7_addSample : GoodIn wsX7_applyAliquot (wsV RX7 116 RX7 yX7_addSample wsX7_addSample) := goodIn_app (goodIn_of _ (by decide +kernel)) ggX7_applyAliquot_X7_addSample
theorem dX7_applyAliquot_0 : decode cX7_applyAliquot 0 = .ok (.aload_n 0, 1) := by decide +kernel
theorem dX7_applyAliquot_1 : decode cX7_applyAliquot 1 = .ok (.aload_n 1, 1) := by decide +kernel
theorem dX7_applyAliquot_2 : decode cX7_applyAliquot 2 = .ok (.getfield 120, 3) := by decide +kernel
theorem dX7_applyAliquot_5 : decode cX7_applyAliquot 5 = .ok (.invokevirtual 45, 3) := by decide +kernel
theorem dX7_applyAliquot_8 : decode cX7_applyAliquot 8 = .ok (.ifCond .eq 43, 3) := by decide +kernel
theorem dX7_applyAliquot_11 : decode cX7_applyAliquot 11 = .ok (.aload_n 0, 1) := by decide +kernel
theorem dX7_applyAliquot_12 : decode cX7_applyAliquot 12 = .ok (.aload_n 1, 1) := by decide +kernel
theorem dX7_applyAliquot_13 : decode cX7_applyAliquot 13 = .ok (.getfield 120, 3) := by decide +kernel
theorem dX7_applyAliquot_16 : decode cX7_applyAliquot 16 = .ok (.invokevirtual 109, 3) := by decide +kernel
theorem dX7_applyAliquot_19 : decode cX7_applyAliquot 19 = .ok (.aload_n 0, 1) := by decide +kernel
theorem dX7_applyAliquot_20 : decode cX7_applyAliquot 20 = .ok (.getfield 18, 3) := by decide +kernel
theorem dX7_applyAliquot_23 : decode cX7_applyAliquot 23 = .ok (.aload_n 1, 1) := by decide +kernel
theorem dX7_applyAliquot_24 : decode cX7_applyAliquot 24 = .ok (.getfield 120, 3) := by decide +kernel
theorem dX7_applyAliquot_27 : decode cX7_applyAliquot 27 = .ok (.dup2, 1) := by decide +kernel
theorem dX7_applyAliquot_28 : decode cX7_applyAliquot 28 = .ok (.laload, 1) := by decide +kernel
theorem dX7_applyAliquot_29 : decode cX7_applyAliquot 29 = .ok (.aload_n 1, 1) := by decide +kernel
theorem dX7_applyAliquot_30 : decode cX7_applyAliquot 30 = .ok (.getfield 106, 3) := by decide +kernel
theorem dX7_applyAliquot_33 : decode cX7_applyAliquot 33 = .ok (.lsub, 1) := by decide +kernel
theorem dX7_applyAliquot_34 : decode cX7_applyAliquot 34 = .ok (.lastore, 1) := by decide +kernel
theorem dX7_applyAliquot_35 : decode cX7_applyAliquot 35 = .ok (.aload_n 0, 1) := by decide +kernel
theorem dX7_applyAliquot_36 : decode cX7_applyAliquot 36 = .ok (.aload_n 1, 1) := by decide +kernel
theorem dX7_applyAliquot_37 : decode cX7_applyAliquot 37 = .ok (.getfield 120, 3) := by decide +kernel
theorem dX7_applyAliquot_40 : decode cX7_applyAliquot 40 = .ok (.aload_n 1, 1) := by decide +kernel
theorem dX7_applyAliquot_41 : decode cX7_applyAliquot 41 = .ok (.getfield 113, 3) := by decide +kernel
theorem dX7_applyAliquot_44 : decode cX7_applyAliquot 44 = .ok (.aload_n 1, 1) := by decide +kernel
theorem dX7_applyAliquot_45 : decode cX7_applyAliquot 45 = .ok (.getfield 106, 3) := by decide +kernel
theorem dX7_applyAliquot_48 : decode cX7_applyAliquot 48 = .ok (.invokevirtual 116, 3) := by decide +kernel
theorem dX7_applyAliquot_51 : decode cX7_applyAliquot 51 = .ok (.return_, 1) := by decide +kernel
set_option maxRecDepth 20000 in
theorem ggX7_applyMove_X7_isSample : GoodIn wsX7_applyMove wsX7_isSample := goodIn_r _ [6, 7, 39, 40, 41, 42, 43, 44, 45] (by decide +kernel) (by decide +kernel)
set_option maxRecDepth 20000 in
theorem gX7_applyMove_X7_isSample : GoodIn wsX7_applyMove (wsV RX7 45 RX7 yX7_isSample wsX7_isSample) := goodIn_app (goodIn_of _ (by decide +kernel)) ggX7_applyMove_X7_isSample
set_option maxRecDepth 20000 in
theorem ggX7_applyMove_X7_remember : GoodIn wsX7_applyMove wsX7_remember := goodIn_r _ [11, 12, 7, 13, 14, 15, 16, 5, 17, 1, 2, 3, 4, 6, 18, 19, 20, 21, 22, 23, 24, 25, 26, 27, 28, 29, 30, 31, 32, 33, 34, 39, 40, 41, 42, 43, 44, 45, 46, 47, 48, 49, 50, 51] (by decide +kernel) (by decide +kernel)
set_option maxRecDepth 20000 in
theorem gX7_applyMove_X7_remember : GoodIn wsX7_applyMove (wsV RX7 109 RX7 yX7_remember wsX7_remember) := goodIn_app (goodIn_of _ (by decide +kernel)) ggX7_applyMove_X7_remember
theorem dX7_applyMove_0 : decode cX7_applyMove 0 = .ok (.aload_n 0, 1) := by decide +kernel
theorem dX7_applyMove_1 : decode cX7_applyMove 1 = .ok (.aload_n 1, 1) := by decide +kernel
theorem dX7_applyMove_2 : decode cX7_applyMove 2 = .ok (.getfield 120, 3) := by decide +kernel
theorem dX7_applyMove_5 : decode cX7_applyMove 5 = .ok (.invokevirtual 45, 3) := by decide +kernel
theorem dX7_applyMove_8 : decode cX7_applyMove 8 = .ok (.ifCond .eq 24, 3) := by decide +kernel
theorem dX7_applyMove_11 : decode cX7_applyMove 11 = .ok (.aload_n 0, 1) := by decide +kernel
theorem dX7_applyMove_12 : decode cX7_applyMove 12 = .ok (.aload_n 1, 1) := by decide +kernel
theorem dX7_applyMove_13 : decode cX7_applyMove 13 = .ok (.getfield 120, 3) := by decide +kernel
theorem dX7_applyMove_16 : decode cX7_applyMove 16 = .ok (.invokevirtual 109, 3) := by decide +kernel
theorem dX7_applyMove_19 : decode cX7_applyMove 19 = .ok (.aload_n 0, 1) := by decide +kernel
theorem dX7_applyMove_20 : decode cX7_applyMove 20 = .ok (.getfield 15, 3) := by decide +kernel
theorem dX7_applyMove_23 : decode cX7_applyMove 23 = .ok (.aload_n 1, 1) := by decide +kernel
theorem dX7_applyMove_24 : decode cX7_applyMove 24 = .ok (.getfield 120, 3) := by decide +kernel
theorem dX7_applyMove_27 : decode cX7_applyMove 27 = .ok (.aload_n 1, 1) := by decide +kernel
theorem dX7_applyMove_28 : decode cX7_applyMove 28 = .ok (.getfield 113, 3) := by decide +kernel
theorem dX7_applyMove_31 : decode cX7_applyMove 31 = .ok (.iastore, 1) := by decide +kernel
theorem dX7_applyMove_32 : decode cX7_applyMove 32 = .ok (.return_, 1) := by decide +kernel
set_option maxRecDepth 20000 in
theorem ggX7_applyDiscard_X7_isSample : GoodIn wsX7_applyDiscard wsX7_isSample := goodIn_r _ [8, 9, 39, 40, 41, 42, 43, 44, 45] (by decide +kernel) (by decide +kernel)
set_option maxRecDepth 20000 in
theorem gX7_applyDiscard_X7_isSample : GoodIn wsX7_applyDiscard (wsV RX7 45 RX7 yX7_isSample wsX7_isSample) := goodIn_app (goodIn_of _ (by decide +kernel)) ggX7_applyDiscard_X7_isSample
set_option maxRecDepth 20000 in
theorem ggX7_applyDiscard_X7_remember : GoodIn wsX7_applyDiscard wsX7_remember := goodIn_r _ [13, 14, 9, 1, 15, 16, 17, 7, 18, 3, 4, 5, 6, 8, 19, 20, 21, 22, 2, 23, 24, 25, 26, 27, 28, 29, 30, 31, 32, 33, 34, 39, 40, 41, 42, 43, 44, 45, 46, 47, 48, 49, 50, 51] (by decide +kernel) (by decide +kernel)
set_option maxRecDepth 20000 in
theorem gX7_applyDiscard_X7_remember : GoodIn wsX7_applyDiscard (wsV RX7 109 RX7 yX7_remember wsX7_remember) := goodIn_app (goodIn_of _ (by decide +kernel)) ggX7_applyDiscard_X7_remember
theorem dX7_applyDiscard_0 : decode cX7_applyDiscard 0 = .ok (.aload_n 0, 1) := by decide +kernel
theorem dX7_applyDiscard_1 : decode cX7_applyDiscard 1 = .ok (.aload_n 1, 1) := by decide +kernel
theorem dX7_applyDiscard_2 : decode cX7_applyDiscard 2 = .ok (.getfield 120, 3) := by decide +kernel
theorem dX7_applyDiscard_5 : decode cX7_applyDiscard 5 = .ok (.invokevirtual 45, 3) := by decide +kernel
theorem dX7_applyDiscard_8 : decode cX7_applyDiscard 8 = .ok (.ifCond .eq 49, 3) := by decide +kernel
theorem dX7_applyDiscard_11 : decode cX7_applyDiscard 11 = .ok (.aload_n 0, 1) := by decide +kernel
theorem dX7_applyDiscard_12 : decode cX7_applyDiscard 12 = .ok (.aload_n 1, 1) := by decide +kernel
theorem dX7_applyDiscard_13 : decode cX7_applyDiscard 13 = .ok (.getfield 120, 3) := by decide +kernel
theorem dX7_applyDiscard_16 : decode cX7_applyDiscard 16 = .ok (.invokevirtual 109, 3) := by decide +kernel
theorem dX7_applyDiscard_19 : decode cX7_applyDiscard 19 = .ok (.aload_n 0, 1) := by decide +kernel
theorem dX7_applyDiscard_20 : decode cX7_applyDiscard 20 = .ok (.dup, 1) := by decide +kernel
theorem dX7_applyDiscard_21 : decode cX7_applyDiscard 21 = .ok (.getfield 37, 3) := by decide +kernel
theorem dX7_applyDiscard_24 : decode cX7_applyDiscard 24 = .ok (.aload_n 0, 1) := by decide +kernel
theorem dX7_applyDiscard_25 : decode cX7_applyDiscard 25 = .ok (.getfield 18, 3) := by decide +kernel
theorem dX7_applyDiscard_28 : decode cX7_applyDiscard 28 = .ok (.aload_n 1, 1) := by decide +kernel
theorem dX7_applyDiscard_29 : decode cX7_applyDiscard 29 = .ok (.getfield 120, 3) := by decide +kernel
theorem dX7_applyDiscard_32 : decode cX7_applyDiscard 32 = .ok (.laload, 1) := by decide +kernel
theorem dX7_applyDiscard_33 : decode cX7_applyDiscard 33 = .ok (.ladd, 1) := by decide +kernel
theorem dX7_applyDiscard_34 : decode cX7_applyDiscard 34 = .ok (.putfield 37, 3) := by decide +kernel
theorem dX7_applyDiscard_37 : decode cX7_applyDiscard 37 = .ok (.aload_n 0, 1) := by decide +kernel
theorem dX7_applyDiscard_38 : decode cX7_applyDiscard 38 = .ok (.getfield 18, 3) := by decide +kernel
theorem dX7_applyDiscard_41 : decode cX7_applyDiscard 41 = .ok (.aload_n 1, 1) := by decide +kernel
theorem dX7_applyDiscard_42 : decode cX7_applyDiscard 42 = .ok (.getfield 120, 3) := by decide +kernel
theorem dX7_applyDiscard_45 : decode cX7_applyDiscard 45 = .ok (.lconst 0, 1) := by decide +kernel
theorem dX7_applyDiscard_46 : decode cX7_applyDiscard 46 = .ok (.lastore, 1) := by decide +kernel
theorem dX7_applyDiscard_47 : decode cX7_applyDiscard 47 = .ok (.aload_n 0, 1) := by decide +kernel
theorem dX7_applyDiscard_48 : decode cX7_applyDiscard 48 = .ok (.getfield 15, 3) := by decide +kernel
theorem dX7_applyDiscard_51 : decode cX7_applyDiscard 51 = .ok (.aload_n 1, 1) := by decide +kernel
theorem dX7_applyDiscard_52 : decode cX7_applyDiscard 52 = .ok (.getfield 120, 3) := by decide +kernel
theorem dX7_applyDiscard_55 : decode cX7_applyDiscard 55 = .ok (.iconst (-1), 1) := by decide +kernel
theorem dX7_applyDiscard_56 : decode cX7_applyDiscard 56 = .ok (.iastore, 1) := by decide +kernel
theorem dX7_applyDiscard_57 : decode cX7_applyDiscard 57 = .ok (.return_, 1) := by decide +kernel
set_option maxRecDepth 20000 in
theorem ggX7_applyKept_X7_addSample : GoodIn wsX7_applyKept wsX7_addSample := goodIn_r _ [5, 6, 7, 8, 9, 10, 11, 12, 4, 13, 18, 19, 20, 21, 22, 23, 24] (by decide +kernel) (by decide +kernel)
set_option maxRecDepth 20000 in
theorem gX7_applyKept_X7_addSample : GoodIn wsX7_applyKept (wsV RX7 116 RX7 yX7_addSample wsX7_addSample) := goodIn_app (goodIn_of _ (by decide +kernel)) ggX7_applyKept_X7_addSample
theorem dX7_applyKept_0 : decode cX7_applyKept 0 = .ok (.aload_n 0, 1) := by decide +kernel
theorem dX7_applyKept_1 : decode cX7_applyKept 1 = .ok (.aload_n 1, 1) := by decide +kernel
theorem dX7_applyKept_2 : decode cX7_applyKept 2 = .ok (.getfield 120, 3) := by decide +kernel
theorem dX7_applyKept_5 : decode cX7_applyKept 5 = .ok (.aload_n 1, 1) := by decide +kernel
theorem dX7_applyKept_6 : decode cX7_applyKept 6 = .ok (.getfield 113, 3) := by decide +kernel
theorem dX7_applyKept_9 : decode cX7_applyKept 9 = .ok (.sipush 255, 3) := by decide +kernel
theorem dX7_applyKept_12 : decode cX7_applyKept 12 = .ok (.if_icmp .ne 7, 3) := by decide +kernel
theorem dX7_applyKept_15 : decode cX7_applyKept 15 = .ok (.iconst (-1), 1) := by decide +kernel
theorem dX7_applyKept_16 : decode cX7_applyKept 16 = .ok (.goto 7, 3) := by decide +kernel
theorem dX7_applyKept_19 : decode cX7_applyKept 19 = .ok (.aload_n 1, 1) := by decide +kernel
theorem dX7_applyKept_20 : decode cX7_applyKept 20 = .ok (.getfield 113, 3) := by decide +kernel
theorem dX7_applyKept_23 : decode cX7_applyKept 23 = .ok (.aload_n 1, 1) := by decide +kernel
theorem dX7_applyKept_24 : decode cX7_applyKept 24 = .ok (.getfield 106, 3) := by decide +kernel
theorem dX7_applyKept_27 : decode cX7_applyKept 27 = .ok (.invokevirtual 116, 3) := by decide +kernel
theorem dX7_applyKept_30 : decode cX7_applyKept 30 = .ok (.return_, 1) := by decide +kernel
set_option maxRecDepth 20000 in
theorem ggX7_applyUndo_X4_stepBack : GoodIn wsX7_applyUndo wsX4_stepBack := goodIn_r _ [10, 11, 49, 50, 51, 52, 53, 54] (by decide +kernel) (by decide +kernel)
set_option maxRecDepth 20000 in
theorem gX7_applyUndo_X4_stepBack : GoodIn wsX7_applyUndo (wsV RX7 123 RX4 yX4_stepBack wsX4_stepBack) := goodIn_app (goodIn_of _ (by decide +kernel)) ggX7_applyUndo_X4_stepBack
set_option maxRecDepth 20000 in
theorem ggX7_applyUndo_X4_samplesBefore : GoodIn wsX7_applyUndo wsX4_samplesBefore := goodIn_r _ [15, 11, 16, 49, 50, 51, 52, 53, 54] (by decide +kernel) (by decide +kernel)
set_option maxRecDepth 20000 in
theorem gX7_applyUndo_X4_samplesBefore : GoodIn wsX7_applyUndo (wsV RX7 127 RX4 yX4_samplesBefore wsX4_samplesBefore) := goodIn_app (goodIn_of _ (by decide +kernel)) ggX7_applyUndo_X4_samplesBefore
set_option maxRecDepth 20000 in
theorem ggX7_applyUndo_X4_lostBefore : GoodIn wsX7_applyUndo wsX4_lostBefore := goodIn_r _ [20, 11, 21, 49, 50, 51, 52, 53, 54] (by decide +kernel) (by decide +kernel)
set_option maxRecDepth 20000 in
theorem gX7_applyUndo_X4_lostBefore : GoodIn wsX7_applyUndo (wsV RX7 130 RX4 yX4_lostBefore wsX4_lostBefore) := goodIn_app (goodIn_of _ (by decide +kernel)) ggX7_applyUndo_X4_lostBefore
set_option maxRecDepth 20000 in
theorem ggX7_applyUndo_X4_touched : GoodIn wsX7_applyUndo wsX4_touched := goodIn_r _ [25, 11, 26, 49, 50, 51, 52, 53, 54] (by decide +kernel) (by decide +kernel)
set_option maxRecDepth 20000 in
theorem gX7_applyUndo_X4_touched : GoodIn wsX7_applyUndo (wsV RX7 133 RX4 yX4_touched wsX4_touched) := goodIn_app (goodIn_of _ (by decide +kernel)) ggX7_applyUndo_X4_touched
set_option maxRecDepth 20000 in
theorem ggX7_applyUndo_X7_isSample : GoodIn wsX7_applyUndo wsX7_isSample := goodIn_r _ [31, 2, 42, 43, 44, 45, 46, 47, 48] (by decide +kernel) (by decide +kernel)
set_option maxRecDepth 20000 in
theorem gX7_applyUndo_X7_isSample : GoodIn wsX7_applyUndo (wsV RX7 45 RX7 yX7_isSample wsX7_isSample) := goodIn_app (goodIn_of _ (by decide +kernel)) ggX7_applyUndo_X7_isSample
set_option maxRecDepth 20000 in
theorem ggX7_applyUndo_X4_wellBefore : GoodIn wsX7_applyUndo wsX4_wellBefore := goodIn_r _ [35, 11, 36, 49, 50, 51, 52, 53, 54] (by decide +kernel) (by decide +kernel)
set_option maxRecDepth 20000 in
theorem gX7_applyUndo_X4_wellBefore : GoodIn wsX7_applyUndo (wsV RX7 136 RX4 yX4_wellBefore wsX4_wellBefore) := goodIn_app (goodIn_of _ (by decide +kernel)) ggX7_applyUndo_X4_wellBefore
set_option maxRecDepth 20000 in
theorem ggX7_applyUndo_X4_volumeBefore : GoodIn wsX7_applyUndo wsX4_volumeBefore := goodIn_r _ [40, 11, 41, 49, 50, 51, 52, 53, 54] (by decide +kernel) (by decide +kernel)
set_option maxRecDepth 20000 in
theorem gX7_applyUndo_X4_volumeBefore : GoodIn wsX7_applyUndo (wsV RX7 139 RX4 yX4_volumeBefore wsX4_volumeBefore) := goodIn_app (goodIn_of _ (by decide +kernel)) ggX7_applyUndo_X4_volumeBefore
theorem dX7_applyUndo_0 : decode cX7_applyUndo 0 = .ok (.aload_n 0, 1) := by decide +kernel
theorem dX7_applyUndo_1 : decode cX7_applyUndo 1 = .ok (.getfield 29, 3) := by decide +kernel
theorem dX7_applyUndo_4 : decode cX7_applyUndo 4 = .ok (.invokevirtual 123, 3) := by decide +kernel
theorem dX7_applyUndo_7 : decode cX7_applyUndo 7 = .ok (.ifCond .eq 67, 3) := by decide +kernel
theorem dX7_applyUndo_10 : decode cX7_applyUndo 10 = .ok (.aload_n 0, 1) := by decide +kernel
theorem dX7_applyUndo_11 : decode cX7_applyUndo 11 = .ok (.aload_n 0, 1) := by decide +kernel
theorem dX7_applyUndo_12 : decode cX7_applyUndo 12 = .ok (.getfield 29, 3) := by decide +kernel
theorem dX7_applyUndo_15 : decode cX7_applyUndo 15 = .ok (.invokevirtual 127, 3) := by decide +kernel
theorem dX7_applyUndo_18 : decode cX7_applyUndo 18 = .ok (.putfield 33, 3) := by decide +kernel
theorem dX7_applyUndo_21 : decode cX7_applyUndo 21 = .ok (.aload_n 0, 1) := by decide +kernel
theorem dX7_applyUndo_22 : decode cX7_applyUndo 22 = .ok (.aload_n 0, 1) := by decide +kernel
theorem dX7_applyUndo_23 : decode cX7_applyUndo 23 = .ok (.getfield 29, 3) := by decide +kernel
theorem dX7_applyUndo_26 : decode cX7_applyUndo 26 = .ok (.invokevirtual 130, 3) := by decide +kernel
theorem dX7_applyUndo_29 : decode cX7_applyUndo 29 = .ok (.putfield 37, 3) := by decide +kernel
theorem dX7_applyUndo_32 : decode cX7_applyUndo 32 = .ok (.aload_n 0, 1) := by decide +kernel
theorem dX7_applyUndo_33 : decode cX7_applyUndo 33 = .ok (.getfield 29, 3) := by decide +kernel
theorem dX7_applyUndo_36 : decode cX7_applyUndo 36 = .ok (.invokevirtual 133, 3) := by decide +kernel
theorem dX7_applyUndo_39 : decode cX7_applyUndo 39 = .ok (.istore_n 1, 1) := by decide +kernel
theorem dX7_applyUndo_40 : decode cX7_applyUndo 40 = .ok (.aload_n 0, 1) := by decide +kernel
theorem dX7_applyUndo_41 : decode cX7_applyUndo 41 = .ok (.iload_n 1, 1) := by decide +kernel
theorem dX7_applyUndo_42 : decode cX7_applyUndo 42 = .ok (.invokevirtual 45, 3) := by decide +kernel
theorem dX7_applyUndo_45 : decode cX7_applyUndo 45 = .ok (.ifCond .eq 29, 3) := by decide +kernel
theorem dX7_applyUndo_48 : decode cX7_applyUndo 48 = .ok (.aload_n 0, 1) := by decide +kernel
theorem dX7_applyUndo_49 : decode cX7_applyUndo 49 = .ok (.getfield 15, 3) := by decide +kernel
theorem dX7_applyUndo_52 : decode cX7_applyUndo 52 = .ok (.iload_n 1, 1) := by decide +kernel
theorem dX7_applyUndo_53 : decode cX7_applyUndo 53 = .ok (.aload_n 0, 1) := by decide +kernel
theorem dX7_applyUndo_54 : decode cX7_applyUndo 54 = .ok (.getfield 29, 3) := by decide +kernel
theorem dX7_applyUndo_57 : decode cX7_applyUndo 57 = .ok (.invokevirtual 136, 3) := by decide +kernel
theorem dX7_applyUndo_60 : decode cX7_applyUndo 60 = .ok (.iastore, 1) := by decide +kernel
theorem dX7_applyUndo_61 : decode cX7_applyUndo 61 = .ok (.aload_n 0, 1) := by decide +kernel
theorem dX7_applyUndo_62 : decode cX7_applyUndo 62 = .ok (.getfield 18, 3) := by decide +kernel
theorem dX7_applyUndo_65 : decode cX7_applyUndo 65 = .ok (.iload_n 1, 1) := by decide +kernel
theorem dX7_applyUndo_66 : decode cX7_applyUndo 66 = .ok (.aload_n 0, 1) := by decide +kernel
theorem dX7_applyUndo_67 : decode cX7_applyUndo 67 = .ok (.getfield 29, 3) := by decide +kernel
theorem dX7_applyUndo_70 : decode cX7_applyUndo 70 = .ok (.invokevirtual 139, 3) := by decide +kernel
theorem dX7_applyUndo_73 : decode cX7_applyUndo 73 = .ok (.lastore, 1) := by decide +kernel
theorem dX7_applyUndo_74 : decode cX7_applyUndo 74 = .ok (.return_, 1) := by decide +kernel
set_option maxRecDepth 20000 in
theorem ggX7_remember_X7_wellOf : GoodIn wsX7_remember wsX7_wellOf := goodIn_r _ [8, 9, 10, 11, 12, 7, 13, 2, 31, 32, 33, 34, 35, 36, 37] (by decide +kernel) (by decide +kernel)
set_option maxRecDepth 20000 in
theorem gX7_remember_X7_wellOf : GoodIn wsX7_remember (wsV RX7 41 RX7 yX7_wellOf wsX7_wellOf) := goodIn_app (goodIn_of _ (by decide +kernel)) ggX7_remember_X7_wellOf
set_option maxRecDepth 20000 in
theorem ggX7_remember_X7_volumeOf : GoodIn wsX7_remember wsX7_volumeOf := goodIn_r _ [17, 18, 19, 10, 11, 12, 7, 13, 2, 31, 32, 33, 34, 35, 36, 37] (by decide +kernel) (by decide +kernel)
set_option maxRecDepth 20000 in
theorem gX7_remember_X7_volumeOf : GoodIn wsX7_remember (wsV RX7 63 RX7 yX7_volumeOf wsX7_volumeOf) := goodIn_app (goodIn_of _ (by decide +kernel)) ggX7_remember_X7_volumeOf
set_option maxRecDepth 20000 in
theorem ggX7_remember_X4_add : GoodIn wsX7_remember wsX4_add := goodIn_r _ [24, 25, 26, 27, 28, 29, 30, 38, 39, 40, 41, 42, 43] (by decide +kernel) (by decide +kernel)
set_option maxRecDepth 20000 in
theorem gX7_remember_X4_add : GoodIn wsX7_remember (wsV RX7 142 RX4 yX4_add wsX4_add) := goodIn_app (goodIn_of _ (by decide +kernel)) ggX7_remember_X4_add
theorem dX7_remember_0 : decode cX7_remember 0 = .ok (.aload_n 0, 1) := by decide +kernel
theorem dX7_remember_1 : decode cX7_remember 1 = .ok (.getfield 29, 3) := by decide +kernel
theorem dX7_remember_4 : decode cX7_remember 4 = .ok (.aload_n 0, 1) := by decide +kernel
theorem dX7_remember_5 : decode cX7_remember 5 = .ok (.getfield 33, 3) := by decide +kernel
theorem dX7_remember_8 : decode cX7_remember 8 = .ok (.aload_n 0, 1) := by decide +kernel
theorem dX7_remember_9 : decode cX7_remember 9 = .ok (.getfield 37, 3) := by decide +kernel
theorem dX7_remember_12 : decode cX7_remember 12 = .ok (.iload_n 1, 1) := by decide +kernel
theorem dX7_remember_13 : decode cX7_remember 13 = .ok (.aload_n 0, 1) := by decide +kernel
theorem dX7_remember_14 : decode cX7_remember 14 = .ok (.iload_n 1, 1) := by decide +kernel
theorem dX7_remember_15 : decode cX7_remember 15 = .ok (.invokevirtual 41, 3) := by decide +kernel
theorem dX7_remember_18 : decode cX7_remember 18 = .ok (.aload_n 0, 1) := by decide +kernel
theorem dX7_remember_19 : decode cX7_remember 19 = .ok (.iload_n 1, 1) := by decide +kernel
theorem dX7_remember_20 : decode cX7_remember 20 = .ok (.invokevirtual 63, 3) := by decide +kernel
theorem dX7_remember_23 : decode cX7_remember 23 = .ok (.invokevirtual 142, 3) := by decide +kernel
theorem dX7_remember_26 : decode cX7_remember 26 = .ok (.return_, 1) := by decide +kernel
set_option maxRecDepth 20000 in
theorem ggX7_addSample_X7_isFull : GoodIn wsX7_addSample wsX7_isFull := goodIn_r _ [9, 1, 10, 11, 12, 13, 14, 15, 16] (by decide +kernel) (by decide +kernel)
set_option maxRecDepth 20000 in
theorem gX7_addSample_X7_isFull : GoodIn wsX7_addSample (wsV RX7 146 RX7 yX7_isFull wsX7_isFull) := goodIn_app (goodIn_of _ (by decide +kernel)) ggX7_addSample_X7_isFull
theorem dX7_addSample_0 : decode cX7_addSample 0 = .ok (.aload_n 0, 1) := by decide +kernel
theorem dX7_addSample_1 : decode cX7_addSample 1 = .ok (.invokevirtual 146, 3) := by decide +kernel
theorem dX7_addSample_4 : decode cX7_addSample 4 = .ok (.ifCond .ne 43, 3) := by decide +kernel
theorem dX7_addSample_7 : decode cX7_addSample 7 = .ok (.aload_n 0, 1) := by decide +kernel
theorem dX7_addSample_8 : decode cX7_addSample 8 = .ok (.dup, 1) := by decide +kernel
theorem dX7_addSample_9 : decode cX7_addSample 9 = .ok (.getfield 33, 3) := by decide +kernel
theorem dX7_addSample_12 : decode cX7_addSample 12 = .ok (.iconst 1, 1) := by decide +kernel
theorem dX7_addSample_13 : decode cX7_addSample 13 = .ok (.iadd, 1) := by decide +kernel
theorem dX7_addSample_14 : decode cX7_addSample 14 = .ok (.putfield 33, 3) := by decide +kernel
theorem dX7_addSample_17 : decode cX7_addSample 17 = .ok (.aload_n 0, 1) := by decide +kernel
theorem dX7_addSample_18 : decode cX7_addSample 18 = .ok (.getfield 9, 3) := by decide +kernel
theorem dX7_addSample_21 : decode cX7_addSample 21 = .ok (.aload_n 0, 1) := by decide +kernel
theorem dX7_addSample_22 : decode cX7_addSample 22 = .ok (.getfield 33, 3) := by decide +kernel
theorem dX7_addSample_25 : decode cX7_addSample 25 = .ok (.iload_n 1, 1) := by decide +kernel
theorem dX7_addSample_26 : decode cX7_addSample 26 = .ok (.iastore, 1) := by decide +kernel
theorem dX7_addSample_27 : decode cX7_addSample 27 = .ok (.aload_n 0, 1) := by decide +kernel
theorem dX7_addSample_28 : decode cX7_addSample 28 = .ok (.getfield 15, 3) := by decide +kernel
theorem dX7_addSample_31 : decode cX7_addSample 31 = .ok (.aload_n 0, 1) := by decide +kernel
theorem dX7_addSample_32 : decode cX7_addSample 32 = .ok (.getfield 33, 3) := by decide +kernel
theorem dX7_addSample_35 : decode cX7_addSample 35 = .ok (.iload_n 2, 1) := by decide +kernel
theorem dX7_addSample_36 : decode cX7_addSample 36 = .ok (.iastore, 1) := by decide +kernel
theorem dX7_addSample_37 : decode cX7_addSample 37 = .ok (.aload_n 0, 1) := by decide +kernel
theorem dX7_addSample_38 : decode cX7_addSample 38 = .ok (.getfield 18, 3) := by decide +kernel
theorem dX7_addSample_41 : decode cX7_addSample 41 = .ok (.aload_n 0, 1) := by decide +kernel
theorem dX7_addSample_42 : decode cX7_addSample 42 = .ok (.getfield 33, 3) := by decide +kernel
theorem dX7_addSample_45 : decode cX7_addSample 45 = .ok (.lload_n 3, 1) := by decide +kernel
theorem dX7_addSample_46 : decode cX7_addSample 46 = .ok (.lastore, 1) := by decide +kernel
theorem dX7_addSample_47 : decode cX7_addSample 47 = .ok (.return_, 1) := by decide +kernel
set_option maxRecDepth 20000 in
theorem ggX8_init_X6_init : GoodIn wsX8_init wsX6_init := goodIn_r _ [28, 29, 2, 3, 30, 31, 32, 33, 34, 127, 128, 129, 130, 131] (by decide +kernel) (by decide +kernel)
set_option maxRecDepth 20000 in
theorem gX8_init_X6_init_n11 : GoodIn wsX8_init (wsX6_init) := ggX8_init_X6_init
set_option maxRecDepth 20000 in
theorem ggX8_init_X3_init : GoodIn wsX8_init wsX3_init := goodIn_r _ [37, 38, 2, 3, 39, 40, 41, 42, 43, 44, 45, 46, 47, 48, 49, 50, 51, 5, 6, 52, 53, 54, 55, 56, 16, 13, 17, 57, 58, 59, 60, 61, 62, 63, 64, 65, 66, 27, 28, 29, 30, 31, 32, 33, 34, 67, 68, 69, 70, 71, 72, 73, 74, 75, 76, 77, 78, 79, 80, 81, 82, 83, 84, 85, 86, 87, 88, 89, 90, 91, 92, 93, 94, 136, 137, 138, 139, 140, 141, 153, 154, 155, 156, 157, 127, 128, 129, 130, 131] (by decide +kernel) (by decide +kernel)
set_option maxRecDepth 20000 in
theorem gX8_init_X3_init : GoodIn wsX8_init (wsX3_init) := ggX8_init_X3_init
set_option maxRecDepth 20000 in
theorem ggX8_init_X7_init : GoodIn wsX8_init wsX7_init := goodIn_r _ [96, 97, 2, 3, 98, 99, 100, 101, 102, 103, 104, 105, 106, 107, 108, 109, 110, 111, 112, 113, 114, 115, 116, 117, 118, 119, 142, 143, 144, 145, 146, 147, 148, 158, 159, 160, 161, 162, 163] (by decide +kernel) (by decide +kernel)
set_option maxRecDepth 20000 in
theorem gX8_init_X7_init_n36 : GoodIn wsX8_init (wsX7_init) := ggX8_init_X7_init
set_option maxRecDepth 20000 in
theorem ggX8_init_X2_init : GoodIn wsX8_init wsX2_init := goodIn_r _ [121, 122, 2, 3, 123, 124, 125, 126, 149, 150, 151, 152] (by decide +kernel) (by decide +kernel)
set_option maxRecDepth 20000 in
theorem gX8_init_X2_init_n43 : GoodIn wsX8_init (wsX2_init) := ggX8_init_X2_init
theorem dX8_init_0 : decode cX8_init 0 = .ok (.aload_n 0, 1) := by decide +kernel
theorem dX8_init_1 : decode cX8_init 1 = .ok (.invokespecial 3, 3) := by decide +kernel
theorem dX8_init_4 : decode cX8_init 4 = .ok (.aload_n 0, 1) := by decide +kernel
theorem dX8_init_5 : decode cX8_init 5 = .ok (.new 9, 3) := by decide +kernel
theorem dX8_init_8 : decode cX8_init 8 = .ok (.dup, 1) := by decide +kernel
theorem dX8_init_9 : decode cX8_init 9 = .ok (.invokespecial 11, 3) := by decide +kernel
theorem dX8_init_12 : decode cX8_init 12 = .ok (.putfield 12, 3) := by decide +kernel
theorem dX8_init_15 : decode cX8_init 15 = .ok (.aload_n 0, 1) := by decide +kernel
theorem dX8_init_16 : decode cX8_init 16 = .ok (.new 16, 3) := by decide +kernel
theorem dX8_init_19 : decode cX8_init 19 = .ok (.dup, 1) := by decide +kernel
theorem dX8_init_20 : decode cX8_init 20 = .ok (.bipush 64, 2) := by decide +kernel
theorem dX8_init_22 : decode cX8_init 22 = .ok (.sipush 2048, 3) := by decide +kernel
theorem dX8_init_25 : decode cX8_init 25 = .ok (.iload_n 1, 1) := by decide +kernel
theorem dX8_init_26 : decode cX8_init 26 = .ok (.invokestatic 18, 3) := by decide +kernel
theorem dX8_init_29 : decode cX8_init 29 = .ok (.invokestatic 24, 3) := by decide +kernel
theorem dX8_init_32 : decode cX8_init 32 = .ok (.aload_n 0, 1) := by decide +kernel
theorem dX8_init_33 : decode cX8_init 33 = .ok (.getfield 12, 3) := by decide +kernel
theorem dX8_init_36 : decode cX8_init 36 = .ok (.invokespecial 27, 3) := by decide +kernel
theorem dX8_init_39 : decode cX8_init 39 = .ok (.putfield 30, 3) := by decide +kernel
end
section
theorem dX8_init_42 : decode cX8_init 42 = .ok (.aload_n 0, 1) := by decide +kernel
theorem dX8_init_43 : decode cX8_init 43 = .ok (.new 34, 3) := by decide +kernel
theorem dX8_init_46 : decode cX8_init 46 = .ok (.dup, 1) := by decide +kernel
theorem dX8_init_47 : decode cX8_init 47 = .ok (.invokespecial 36, 3) := by decide +kernel
theorem dX8_init_50 : decode cX8_init 50 = .ok (.putfield 37, 3) := by decide +kernel
theorem dX8_init_53 : decode cX8_init 53 = .ok (.aload_n 0, 1) := by decide +kernel
theorem dX8_init_54 : decode cX8_init 54 = .ok (.new 41, 3) := by decide +kernel
theorem dX8_init_57 : decode cX8_init 57 = .ok (.dup, 1) := by decide +kernel
theorem dX8_init_58 : decode cX8_init 58 = .ok (.invokespecial 43, 3) := by decide +kernel
theorem dX8_init_61 : decode cX8_init 61 = .ok (.putfield 44, 3) := by decide +kernel
theorem dX8_init_64 : decode cX8_init 64 = .ok (.return_, 1) := by decide +kernel
set_option maxRecDepth 20000 in
theorem ggX8_register_X2_set : GoodIn wsX8_register wsX2_set := goodIn_r _ [7, 8, 9, 10, 11, 252, 253, 254, 255] (by decide +kernel) (by decide +kernel)
set_option maxRecDepth 20000 in
theorem gX8_register_X2_set : GoodIn wsX8_register (wsV RX8 48 RX2 yX2_set wsX2_set) := goodIn_app (goodIn_of _ (by decide +kernel)) ggX8_register_X2_set
set_option maxRecDepth 20000 in
theorem ggX8_register_X7_volumeStillAllowed : GoodIn wsX8_register wsX7_volumeStillAllowed := goodIn_r _ [16, 17, 18, 19, 20, 21, 15, 22, 23, 24, 25, 26, 27, 28, 29, 30, 31, 32, 33, 256, 257, 258, 259, 260, 261, 262] (by decide +kernel) (by decide +kernel)
set_option maxRecDepth 20000 in
theorem gX8_register_X7_volumeStillAllowed : GoodIn wsX8_register (wsV RX8 52 RX7 yX7_volumeStillAllowed wsX7_volumeStillAllowed) := goodIn_app (goodIn_of _ (by decide +kernel)) ggX8_register_X7_volumeStillAllowed
set_option maxRecDepth 20000 in
theorem ggX8_register_X8_refusalOfNewSample : GoodIn wsX8_register wsX8_refusalOfNewSample := goodIn_r _ [38, 1, 2, 39, 40, 41, 37, 42, 43, 44, 45, 46, 47, 48, 49, 50, 51, 52, 53, 54, 55, 15, 56, 23, 57, 58, 59, 60, 61, 30, 31, 32, 33, 62, 63, 64, 65, 66, 67, 68, 69, 70, 71, 72, 73, 74, 75, 76, 77, 78, 79, 6, 80, 81, 82, 83, 84, 8, 85, 86, 87, 88, 89, 90, 91, 92, 93, 94, 95, 96, 97, 98, 99, 100, 101, 102, 103, 248, 249, 250, 251, 252, 253, 254, 255, 263, 264, 265, 266, 267, 256, 257, 258, 259, 260, 261, 262, 268, 269, 270, 271, 272, 273, 274] (by decide +kernel) (by decide +kernel)
set_option maxRecDepth 20000 in
theorem gX8_register_X8_refusalOfNewSample : GoodIn wsX8_register (wsV RX8 56 RX8 yX8_refusalOfNewSample wsX8_refusalOfNewSample) := goodIn_app (goodIn_of _ (by decide +kernel)) ggX8_register_X8_refusalOfNewSample
set_option maxRecDepth 20000 in
theorem ggX8_register_X8_carryOut : GoodIn wsX8_register wsX8_carryOut := goodIn_r _ [107, 70, 1, 2, 108, 109, 110, 74, 111, 112, 113, 76, 114, 115, 116, 117, 118, 97, 119, 120, 121, 122, 123, 124, 125, 126, 127, 128, 129, 130, 131, 132, 78, 79, 6, 80, 81, 82, 83, 84, 8, 85, 86, 87, 88, 89, 90, 91, 92, 133, 134, 135, 136, 137, 138, 139, 140, 141, 142, 143, 144, 145, 146, 147, 148, 149, 47, 150, 49, 151, 152, 153, 154, 155, 156, 157, 101, 158, 103, 159, 160, 161, 162, 163, 164, 165, 45, 46, 48, 166, 167, 168, 169, 170, 171, 172, 15, 173, 18, 174, 175, 176, 177, 178, 179, 180, 181, 182, 23, 57, 58, 59, 60, 61, 30, 31, 32, 33, 24, 25, 26, 27, 28, 29, 183, 184, 185, 186, 187, 188, 189, 190, 191, 192, 193, 194, 195, 196, 197, 198, 199, 63, 64, 65, 200, 201, 202, 203, 204, 205, 206, 207, 208, 209, 210, 211, 212, 213, 214, 215, 216, 217, 218, 219, 220, 221, 222, 223, 224, 225, 226, 227, 228, 229, 230, 231, 232, 233, 234, 235, 236, 237, 238, 239, 240, 241, 242, 243, 248, 249, 250, 251, 268, 269, 270, 271, 272, 273, 275, 276, 277, 278, 252, 253, 254, 255, 263, 264, 265, 266, 267, 274, 256, 257, 258, 259, 260, 261, 262, 279, 280, 281, 282, 283, 284] (by decide +kernel) (by decide +kernel)
set_option maxRecDepth 20000 in
theorem gX8_register_X8_carryOut : GoodIn wsX8_register (wsV RX8 60 RX8 yX8_carryOut wsX8_carryOut) := goodIn_app (goodIn_of _ (by decide +kernel)) ggX8_register_X8_carryOut
set_option maxRecDepth 20000 in
theorem ggX8_register_X7_sampleCount : GoodIn wsX8_register wsX7_sampleCount := goodIn_r _ [247, 23, 256, 257, 258, 259, 260, 261, 262] (by decide +kernel) (by decide +kernel)
set_option maxRecDepth 20000 in
theorem gX8_register_X7_sampleCount : GoodIn wsX8_register (wsV RX8 64 RX7 yX7_sampleCount wsX7_sampleCount) := goodIn_app (goodIn_of _ (by decide +kernel)) ggX8_register_X7_sampleCount
theorem dX8_register_0 : decode cX8_register 0 = .ok (.aload_n 0, 1) := by decide +kernel
theorem dX8_register_1 : decode cX8_register 1 = .ok (.getfield 44, 3) := by decide +kernel
theorem dX8_register_4 : decode cX8_register 4 = .ok (.iconst 1, 1) := by decide +kernel
theorem dX8_register_5 : decode cX8_register 5 = .ok (.iconst 0, 1) := by decide +kernel
theorem dX8_register_6 : decode cX8_register 6 = .ok (.iload_n 1, 1) := by decide +kernel
theorem dX8_register_7 : decode cX8_register 7 = .ok (.lload_n 2, 1) := by decide +kernel
theorem dX8_register_8 : decode cX8_register 8 = .ok (.invokevirtual 48, 3) := by decide +kernel
theorem dX8_register_11 : decode cX8_register 11 = .ok (.aload_n 0, 1) := by decide +kernel
theorem dX8_register_12 : decode cX8_register 12 = .ok (.aload_n 0, 1) := by decide +kernel
theorem dX8_register_13 : decode cX8_register 13 = .ok (.iconst 1, 1) := by decide +kernel
theorem dX8_register_14 : decode cX8_register 14 = .ok (.aload_n 0, 1) := by decide +kernel
theorem dX8_register_15 : decode cX8_register 15 = .ok (.getfield 37, 3) := by decide +kernel
theorem dX8_register_18 : decode cX8_register 18 = .ok (.invokevirtual 52, 3) := by decide +kernel
theorem dX8_register_21 : decode cX8_register 21 = .ok (.invokevirtual 56, 3) := by decide +kernel
theorem dX8_register_24 : decode cX8_register 24 = .ok (.invokevirtual 60, 3) := by decide +kernel
theorem dX8_register_27 : decode cX8_register 27 = .ok (.istore 4, 2) := by decide +kernel
theorem dX8_register_29 : decode cX8_register 29 = .ok (.iload 4, 2) := by decide +kernel
theorem dX8_register_31 : decode cX8_register 31 = .ok (.ifCond .ne 13, 3) := by decide +kernel
theorem dX8_register_34 : decode cX8_register 34 = .ok (.aload_n 0, 1) := by decide +kernel
theorem dX8_register_35 : decode cX8_register 35 = .ok (.getfield 37, 3) := by decide +kernel
theorem dX8_register_38 : decode cX8_register 38 = .ok (.invokevirtual 64, 3) := by decide +kernel
theorem dX8_register_41 : decode cX8_register 41 = .ok (.goto 5, 3) := by decide +kernel
theorem dX8_register_44 : decode cX8_register 44 = .ok (.iload 4, 2) := by decide +kernel
theorem dX8_register_46 : decode cX8_register 46 = .ok (.ireturn, 1) := by decide +kernel
set_option maxRecDepth 20000 in
theorem ggX8_aliquot_X2_set : GoodIn wsX8_aliquot wsX2_set := goodIn_r _ [7, 8, 9, 10, 11, 248, 249, 250, 251] (by decide +kernel) (by decide +kernel)
set_option maxRecDepth 20000 in
theorem gX8_aliquot_X2_set : GoodIn wsX8_aliquot (wsV RX8 48 RX2 yX2_set wsX2_set) := goodIn_app (goodIn_of _ (by decide +kernel)) ggX8_aliquot_X2_set
set_option maxRecDepth 20000 in
theorem ggX8_aliquot_X7_isLive : GoodIn wsX8_aliquot wsX7_isLive := goodIn_r _ [16, 17, 18, 19, 15, 20, 21, 22, 23, 24, 25, 26, 252, 253, 254, 255, 256, 257, 258] (by decide +kernel) (by decide +kernel)
set_option maxRecDepth 20000 in
theorem gX8_aliquot_X7_isLive : GoodIn wsX8_aliquot (wsV RX8 68 RX7 yX7_isLive wsX7_isLive) := goodIn_app (goodIn_of _ (by decide +kernel)) ggX8_aliquot_X7_isLive
set_option maxRecDepth 20000 in
theorem ggX8_aliquot_X7_volumeOf : GoodIn wsX8_aliquot wsX7_volumeOf := goodIn_r _ [30, 31, 32, 22, 23, 24, 15, 25, 26, 252, 253, 254, 255, 256, 257, 258] (by decide +kernel) (by decide +kernel)
set_option maxRecDepth 20000 in
theorem gX8_aliquot_X7_volumeOf : GoodIn wsX8_aliquot (wsV RX8 72 RX7 yX7_volumeOf wsX7_volumeOf) := goodIn_app (goodIn_of _ (by decide +kernel)) ggX8_aliquot_X7_volumeOf
set_option maxRecDepth 20000 in
theorem ggX8_aliquot_X8_refusalOfNewSample : GoodIn wsX8_aliquot wsX8_refusalOfNewSample := goodIn_r _ [37, 1, 2, 38, 39, 40, 36, 41, 42, 43, 44, 45, 46, 47, 48, 49, 50, 51, 52, 53, 54, 15, 55, 26, 17, 18, 19, 20, 21, 22, 23, 24, 25, 56, 57, 58, 59, 60, 61, 62, 63, 64, 65, 66, 67, 68, 69, 70, 71, 72, 73, 6, 74, 75, 76, 77, 78, 8, 79, 80, 81, 82, 83, 84, 85, 86, 87, 88, 89, 90, 91, 92, 93, 94, 95, 96, 97, 244, 245, 246, 247, 248, 249, 250, 251, 259, 260, 261, 262, 263, 252, 253, 254, 255, 256, 257, 258, 264, 265, 266, 267, 268, 269, 270] (by decide +kernel) (by decide +kernel)
set_option maxRecDepth 20000 in
theorem gX8_aliquot_X8_refusalOfNewSample : GoodIn wsX8_aliquot (wsV RX8 56 RX8 yX8_refusalOfNewSample wsX8_refusalOfNewSample) := goodIn_app (goodIn_of _ (by decide +kernel)) ggX8_aliquot_X8_refusalOfNewSample
set_option maxRecDepth 20000 in
theorem ggX8_aliquot_X8_carryOut : GoodIn wsX8_aliquot wsX8_carryOut := goodIn_r _ [101, 64, 1, 2, 102, 103, 104, 68, 105, 106, 107, 70, 108, 109, 110, 111, 112, 91, 113, 114, 115, 116, 117, 118, 119, 120, 121, 122, 123, 124, 125, 126, 72, 73, 6, 74, 75, 76, 77, 78, 8, 79, 80, 81, 82, 83, 84, 85, 86, 127, 128, 129, 130, 131, 132, 133, 134, 135, 136, 137, 138, 139, 140, 141, 142, 143, 46, 144, 48, 145, 146, 147, 148, 149, 150, 151, 95, 152, 97, 153, 154, 155, 156, 157, 158, 159, 44, 45, 47, 160, 161, 162, 163, 164, 165, 166, 15, 167, 168, 169, 170, 171, 172, 173, 174, 175, 176, 177, 26, 17, 18, 19, 20, 21, 22, 23, 24, 25, 178, 28, 29, 30, 31, 32, 179, 180, 181, 182, 183, 184, 185, 186, 187, 188, 189, 190, 191, 192, 193, 194, 195, 57, 58, 59, 196, 197, 198, 199, 200, 201, 202, 203, 204, 205, 206, 207, 208, 209, 210, 211, 212, 213, 214, 215, 216, 217, 218, 219, 220, 221, 222, 223, 224, 225, 226, 227, 228, 229, 230, 231, 232, 233, 234, 235, 236, 237, 238, 239, 244, 245, 246, 247, 264, 265, 266, 267, 268, 269, 271, 272, 273, 274, 248, 249, 250, 251, 259, 260, 261, 262, 263, 270, 252, 253, 254, 255, 256, 257, 258, 275, 276, 277, 278, 279, 280] (by decide +kernel) (by decide +kernel)
set_option maxRecDepth 20000 in
theorem gX8_aliquot_X8_carryOut : GoodIn wsX8_aliquot (wsV RX8 60 RX8 yX8_carryOut wsX8_carryOut) := goodIn_app (goodIn_of _ (by decide +kernel)) ggX8_aliquot_X8_carryOut
set_option maxRecDepth 20000 in
theorem ggX8_aliquot_X7_sampleCount : GoodIn wsX8_aliquot wsX7_sampleCount := goodIn_r _ [243, 26, 252, 253, 254, 255, 256, 257, 258] (by decide +kernel) (by decide +kernel)
set_option maxRecDepth 20000 in
theorem gX8_aliquot_X7_sampleCount : GoodIn wsX8_aliquot (wsV RX8 64 RX7 yX7_sampleCount wsX7_sampleCount) := goodIn_app (goodIn_of _ (by decide +kernel)) ggX8_aliquot_X7_sampleCount
theorem dX8_aliquot_0 : decode cX8_aliquot 0 = .ok (.aload_n 0, 1) := by decide +kernel
theorem dX8_aliquot_1 : decode cX8_aliquot 1 = .ok (.getfield 44, 3) := by decide +kernel
theorem dX8_aliquot_4 : decode cX8_aliquot 4 = .ok (.iconst 2, 1) := by decide +kernel
theorem dX8_aliquot_5 : decode cX8_aliquot 5 = .ok (.iload_n 1, 1) := by decide +kernel
theorem dX8_aliquot_6 : decode cX8_aliquot 6 = .ok (.iload_n 2, 1) := by decide +kernel
theorem dX8_aliquot_7 : decode cX8_aliquot 7 = .ok (.lload_n 3, 1) := by decide +kernel
theorem dX8_aliquot_8 : decode cX8_aliquot 8 = .ok (.invokevirtual 48, 3) := by decide +kernel
theorem dX8_aliquot_11 : decode cX8_aliquot 11 = .ok (.aload_n 0, 1) := by decide +kernel
theorem dX8_aliquot_12 : decode cX8_aliquot 12 = .ok (.aload_n 0, 1) := by decide +kernel
theorem dX8_aliquot_13 : decode cX8_aliquot 13 = .ok (.aload_n 0, 1) := by decide +kernel
theorem dX8_aliquot_14 : decode cX8_aliquot 14 = .ok (.getfield 37, 3) := by decide +kernel
theorem dX8_aliquot_17 : decode cX8_aliquot 17 = .ok (.iload_n 1, 1) := by decide +kernel
theorem dX8_aliquot_18 : decode cX8_aliquot 18 = .ok (.invokevirtual 68, 3) := by decide +kernel
theorem dX8_aliquot_21 : decode cX8_aliquot 21 = .ok (.aload_n 0, 1) := by decide +kernel
theorem dX8_aliquot_22 : decode cX8_aliquot 22 = .ok (.getfield 37, 3) := by decide +kernel
theorem dX8_aliquot_25 : decode cX8_aliquot 25 = .ok (.iload_n 1, 1) := by decide +kernel
theorem dX8_aliquot_26 : decode cX8_aliquot 26 = .ok (.invokevirtual 72, 3) := by decide +kernel
theorem dX8_aliquot_29 : decode cX8_aliquot 29 = .ok (.invokevirtual 56, 3) := by decide +kernel
theorem dX8_aliquot_32 : decode cX8_aliquot 32 = .ok (.invokevirtual 60, 3) := by decide +kernel
theorem dX8_aliquot_35 : decode cX8_aliquot 35 = .ok (.istore 5, 2) := by decide +kernel
theorem dX8_aliquot_37 : decode cX8_aliquot 37 = .ok (.iload 5, 2) := by decide +kernel
theorem dX8_aliquot_39 : decode cX8_aliquot 39 = .ok (.ifCond .ne 13, 3) := by decide +kernel
theorem dX8_aliquot_42 : decode cX8_aliquot 42 = .ok (.aload_n 0, 1) := by decide +kernel
theorem dX8_aliquot_43 : decode cX8_aliquot 43 = .ok (.getfield 37, 3) := by decide +kernel
theorem dX8_aliquot_46 : decode cX8_aliquot 46 = .ok (.invokevirtual 64, 3) := by decide +kernel
theorem dX8_aliquot_49 : decode cX8_aliquot 49 = .ok (.goto 5, 3) := by decide +kernel
theorem dX8_aliquot_52 : decode cX8_aliquot 52 = .ok (.iload 5, 2) := by decide +kernel
theorem dX8_aliquot_54 : decode cX8_aliquot 54 = .ok (.ireturn, 1) := by decide +kernel
set_option maxRecDepth 20000 in
theorem ggX8_move_X2_set : GoodIn wsX8_move wsX2_set := goodIn_r _ [7, 8, 9, 10, 11, 238, 239, 240, 241] (by decide +kernel) (by decide +kernel)
set_option maxRecDepth 20000 in
theorem gX8_move_X2_set : GoodIn wsX8_move (wsV RX8 48 RX2 yX2_set wsX2_set) := goodIn_app (goodIn_of _ (by decide +kernel)) ggX8_move_X2_set
set_option maxRecDepth 20000 in
theorem ggX8_move_X7_isLive : GoodIn wsX8_move wsX7_isLive := goodIn_r _ [16, 17, 18, 19, 15, 20, 21, 22, 23, 24, 25, 26, 242, 243, 244, 245, 246, 247, 248] (by decide +kernel) (by decide +kernel)
set_option maxRecDepth 20000 in
theorem gX8_move_X7_isLive : GoodIn wsX8_move (wsV RX8 68 RX7 yX7_isLive wsX7_isLive) := goodIn_app (goodIn_of _ (by decide +kernel)) ggX8_move_X7_isLive
set_option maxRecDepth 20000 in
theorem ggX8_move_X8_refusalOfWell : GoodIn wsX8_move wsX8_refusalOfWell := goodIn_r _ [31, 32, 1, 2, 33, 34, 35, 36, 37, 38, 39, 40, 30, 41, 42, 43, 44, 15, 45, 26, 17, 18, 19, 20, 21, 22, 23, 24, 25, 234, 235, 236, 237, 238, 239, 240, 241, 249, 250, 251, 252, 253, 242, 243, 244, 245, 246, 247, 248] (by decide +kernel) (by decide +kernel)
set_option maxRecDepth 20000 in
theorem gX8_move_X8_refusalOfWell : GoodIn wsX8_move (wsV RX8 76 RX8 yX8_refusalOfWell wsX8_refusalOfWell) := goodIn_app (goodIn_of _ (by decide +kernel)) ggX8_move_X8_refusalOfWell
set_option maxRecDepth 20000 in
theorem ggX8_move_X8_refusalOfRoom : GoodIn wsX8_move wsX8_refusalOfRoom := goodIn_r _ [49, 50, 1, 51, 52, 53, 54, 55, 56, 57, 58, 59, 6, 60, 61, 62, 63, 64, 8, 65, 66, 67, 68, 69, 70, 71, 72, 73, 74, 75, 76, 77, 78, 79, 80, 81, 82, 83, 234, 235, 236, 237, 254, 255, 256, 257, 258, 259, 238, 239, 240, 241, 260] (by decide +kernel) (by decide +kernel)
set_option maxRecDepth 20000 in
theorem gX8_move_X8_refusalOfRoom : GoodIn wsX8_move (wsV RX8 80 RX8 yX8_refusalOfRoom wsX8_refusalOfRoom) := goodIn_app (goodIn_of _ (by decide +kernel)) ggX8_move_X8_refusalOfRoom
set_option maxRecDepth 20000 in
theorem ggX8_move_X8_carryOut : GoodIn wsX8_move wsX8_carryOut := goodIn_r _ [87, 50, 1, 2, 88, 89, 90, 54, 91, 92, 93, 56, 94, 95, 96, 97, 98, 77, 99, 100, 101, 102, 103, 104, 105, 106, 107, 108, 109, 110, 111, 112, 58, 59, 6, 60, 61, 62, 63, 64, 8, 65, 66, 67, 68, 69, 70, 71, 72, 113, 114, 115, 116, 117, 118, 119, 120, 121, 122, 123, 124, 125, 126, 127, 128, 129, 36, 130, 38, 131, 132, 133, 134, 135, 136, 137, 81, 138, 83, 139, 140, 141, 142, 143, 144, 145, 34, 35, 37, 146, 147, 148, 149, 150, 151, 152, 15, 153, 154, 155, 156, 157, 158, 159, 160, 161, 162, 163, 26, 17, 18, 19, 20, 21, 22, 23, 24, 25, 164, 165, 166, 167, 168, 169, 170, 171, 172, 173, 174, 175, 176, 177, 178, 179, 180, 181, 182, 183, 184, 185, 186, 187, 188, 189, 190, 191, 192, 193, 194, 195, 196, 197, 198, 199, 200, 201, 202, 203, 204, 205, 206, 207, 208, 209, 210, 211, 212, 213, 214, 215, 216, 217, 218, 219, 220, 221, 222, 223, 224, 225, 226, 227, 228, 229, 230, 231, 232, 233, 234, 235, 236, 237, 254, 255, 256, 257, 258, 259, 261, 262, 263, 264, 238, 239, 240, 241, 249, 250, 251, 252, 253, 260, 242, 243, 244, 245, 246, 247, 248, 265, 266, 267, 268, 269, 270] (by decide +kernel) (by decide +kernel)
set_option maxRecDepth 20000 in
theorem gX8_move_X8_carryOut : GoodIn wsX8_move (wsV RX8 60 RX8 yX8_carryOut wsX8_carryOut) := goodIn_app (goodIn_of _ (by decide +kernel)) ggX8_move_X8_carryOut
theorem dX8_move_0 : decode cX8_move 0 = .ok (.aload_n 0, 1) := by decide +kernel
theorem dX8_move_1 : decode cX8_move 1 = .ok (.getfield 44, 3) := by decide +kernel
theorem dX8_move_4 : decode cX8_move 4 = .ok (.iconst 3, 1) := by decide +kernel
theorem dX8_move_5 : decode cX8_move 5 = .ok (.iload_n 1, 1) := by decide +kernel
theorem dX8_move_6 : decode cX8_move 6 = .ok (.iload_n 2, 1) := by decide +kernel
theorem dX8_move_7 : decode cX8_move 7 = .ok (.lconst 0, 1) := by decide +kernel
theorem dX8_move_8 : decode cX8_move 8 = .ok (.invokevirtual 48, 3) := by decide +kernel
theorem dX8_move_11 : decode cX8_move 11 = .ok (.aload_n 0, 1) := by decide +kernel
theorem dX8_move_12 : decode cX8_move 12 = .ok (.aload_n 0, 1) := by decide +kernel
theorem dX8_move_13 : decode cX8_move 13 = .ok (.getfield 37, 3) := by decide +kernel
theorem dX8_move_16 : decode cX8_move 16 = .ok (.iload_n 1, 1) := by decide +kernel
theorem dX8_move_17 : decode cX8_move 17 = .ok (.invokevirtual 68, 3) := by decide +kernel
theorem dX8_move_20 : decode cX8_move 20 = .ok (.invokevirtual 76, 3) := by decide +kernel
theorem dX8_move_23 : decode cX8_move 23 = .ok (.istore_n 3, 1) := by decide +kernel
theorem dX8_move_24 : decode cX8_move 24 = .ok (.aload_n 0, 1) := by decide +kernel
theorem dX8_move_25 : decode cX8_move 25 = .ok (.iload_n 3, 1) := by decide +kernel
theorem dX8_move_26 : decode cX8_move 26 = .ok (.ifCond .ne 10, 3) := by decide +kernel
theorem dX8_move_29 : decode cX8_move 29 = .ok (.aload_n 0, 1) := by decide +kernel
theorem dX8_move_30 : decode cX8_move 30 = .ok (.invokevirtual 80, 3) := by decide +kernel
theorem dX8_move_33 : decode cX8_move 33 = .ok (.goto 4, 3) := by decide +kernel
theorem dX8_move_36 : decode cX8_move 36 = .ok (.iload_n 3, 1) := by decide +kernel
theorem dX8_move_37 : decode cX8_move 37 = .ok (.invokevirtual 60, 3) := by decide +kernel
theorem dX8_move_40 : decode cX8_move 40 = .ok (.ireturn, 1) := by decide +kernel
set_option maxRecDepth 20000 in
theorem ggX8_discard_X2_set : GoodIn wsX8_discard wsX2_set := goodIn_r _ [8, 9, 10, 11, 12, 227, 228, 229, 230] (by decide +kernel) (by decide +kernel)
set_option maxRecDepth 20000 in
theorem gX8_discard_X2_set : GoodIn wsX8_discard (wsV RX8 48 RX2 yX2_set wsX2_set) := goodIn_app (goodIn_of _ (by decide +kernel)) ggX8_discard_X2_set
set_option maxRecDepth 20000 in
theorem ggX8_discard_X6_isUp : GoodIn wsX8_discard wsX6_isUp := goodIn_r _ [17, 18, 231, 232, 233, 234, 235] (by decide +kernel) (by decide +kernel)
set_option maxRecDepth 20000 in
theorem gX8_discard_X6_isUp : GoodIn wsX8_discard (wsV RX8 83 RX6 yX6_isUp wsX6_isUp) := goodIn_app (goodIn_of _ (by decide +kernel)) ggX8_discard_X6_isUp
set_option maxRecDepth 20000 in
theorem ggX8_discard_X7_isLive : GoodIn wsX8_discard wsX7_isLive := goodIn_r _ [23, 24, 25, 26, 22, 27, 28, 29, 30, 31, 32, 33, 236, 237, 238, 239, 240, 241, 242] (by decide +kernel) (by decide +kernel)
set_option maxRecDepth 20000 in
theorem gX8_discard_X7_isLive : GoodIn wsX8_discard (wsV RX8 68 RX7 yX7_isLive wsX7_isLive) := goodIn_app (goodIn_of _ (by decide +kernel)) ggX8_discard_X7_isLive
set_option maxRecDepth 20000 in
theorem ggX8_discard_X8_refusalOfRoom : GoodIn wsX8_discard wsX8_refusalOfRoom := goodIn_r _ [38, 39, 1, 40, 41, 42, 43, 44, 45, 46, 47, 48, 7, 49, 50, 51, 52, 53, 9, 54, 55, 56, 57, 58, 59, 60, 61, 62, 63, 64, 65, 66, 67, 68, 69, 70, 71, 72, 223, 224, 225, 226, 243, 244, 245, 246, 247, 248, 227, 228, 229, 230, 249] (by decide +kernel) (by decide +kernel)
set_option maxRecDepth 20000 in
theorem gX8_discard_X8_refusalOfRoom : GoodIn wsX8_discard (wsV RX8 80 RX8 yX8_refusalOfRoom wsX8_refusalOfRoom) := goodIn_app (goodIn_of _ (by decide +kernel)) ggX8_discard_X8_refusalOfRoom
set_option maxRecDepth 20000 in
theorem ggX8_discard_X8_carryOut : GoodIn wsX8_discard wsX8_carryOut := goodIn_r _ [76, 39, 1, 3, 77, 78, 79, 43, 80, 81, 82, 45, 83, 84, 85, 86, 87, 66, 88, 89, 90, 91, 92, 93, 94, 95, 96, 97, 98, 99, 100, 101, 47, 48, 7, 49, 50, 51, 52, 53, 9, 54, 55, 56, 57, 58, 59, 60, 61, 102, 103, 104, 105, 106, 107, 108, 109, 110, 111, 112, 113, 114, 115, 116, 117, 118, 16, 119, 18, 120, 121, 122, 123, 124, 125, 126, 70, 127, 72, 128, 129, 130, 131, 132, 133, 134, 14, 15, 17, 135, 136, 137, 138, 139, 140, 141, 22, 142, 143, 144, 145, 146, 147, 148, 149, 150, 151, 152, 33, 24, 25, 26, 27, 28, 29, 30, 31, 32, 153, 154, 155, 156, 157, 158, 159, 160, 161, 162, 163, 164, 165, 166, 167, 168, 169, 170, 171, 172, 173, 174, 175, 176, 177, 178, 179, 180, 181, 182, 183, 184, 185, 186, 187, 188, 189, 190, 191, 192, 193, 194, 195, 196, 197, 198, 199, 200, 201, 202, 203, 204, 205, 206, 207, 208, 209, 210, 211, 212, 213, 214, 215, 216, 217, 218, 219, 220, 221, 222, 223, 224, 225, 226, 243, 244, 245, 246, 247, 248, 250, 251, 252, 253, 227, 228, 229, 230, 231, 232, 233, 234, 235, 249, 236, 237, 238, 239, 240, 241, 242, 254, 255, 256, 257, 258, 259] (by decide +kernel) (by decide +kernel)
set_option maxRecDepth 20000 in
theorem gX8_discard_X8_carryOut : GoodIn wsX8_discard (wsV RX8 60 RX8 yX8_carryOut wsX8_carryOut) := goodIn_app (goodIn_of _ (by decide +kernel)) ggX8_discard_X8_carryOut
theorem dX8_discard_0 : decode cX8_discard 0 = .ok (.aload_n 0, 1) := by decide +kernel
theorem dX8_discard_1 : decode cX8_discard 1 = .ok (.getfield 44, 3) := by decide +kernel
theorem dX8_discard_4 : decode cX8_discard 4 = .ok (.iconst 4, 1) := by decide +kernel
theorem dX8_discard_5 : decode cX8_discard 5 = .ok (.iload_n 1, 1) := by decide +kernel
theorem dX8_discard_6 : decode cX8_discard 6 = .ok (.iconst 0, 1) := by decide +kernel
theorem dX8_discard_7 : decode cX8_discard 7 = .ok (.lconst 0, 1) := by decide +kernel
theorem dX8_discard_8 : decode cX8_discard 8 = .ok (.invokevirtual 48, 3) := by decide +kernel
theorem dX8_discard_11 : decode cX8_discard 11 = .ok (.aload_n 0, 1) := by decide +kernel
theorem dX8_discard_12 : decode cX8_discard 12 = .ok (.getfield 12, 3) := by decide +kernel
theorem dX8_discard_15 : decode cX8_discard 15 = .ok (.invokevirtual 83, 3) := by decide +kernel
theorem dX8_discard_18 : decode cX8_discard 18 = .ok (.ifCond .ne 5, 3) := by decide +kernel
theorem dX8_discard_21 : decode cX8_discard 21 = .ok (.iconst (-1), 1) := by decide +kernel
theorem dX8_discard_22 : decode cX8_discard 22 = .ok (.ireturn, 1) := by decide +kernel
theorem dX8_discard_23 : decode cX8_discard 23 = .ok (.aload_n 0, 1) := by decide +kernel
theorem dX8_discard_24 : decode cX8_discard 24 = .ok (.getfield 37, 3) := by decide +kernel
theorem dX8_discard_27 : decode cX8_discard 27 = .ok (.iload_n 1, 1) := by decide +kernel
theorem dX8_discard_28 : decode cX8_discard 28 = .ok (.invokevirtual 68, 3) := by decide +kernel
theorem dX8_discard_31 : decode cX8_discard 31 = .ok (.ifCond .ne 6, 3) := by decide +kernel
theorem dX8_discard_34 : decode cX8_discard 34 = .ok (.bipush (-2), 2) := by decide +kernel
theorem dX8_discard_36 : decode cX8_discard 36 = .ok (.ireturn, 1) := by decide +kernel
theorem dX8_discard_37 : decode cX8_discard 37 = .ok (.aload_n 0, 1) := by decide +kernel
theorem dX8_discard_38 : decode cX8_discard 38 = .ok (.aload_n 0, 1) := by decide +kernel
theorem dX8_discard_39 : decode cX8_discard 39 = .ok (.invokevirtual 80, 3) := by decide +kernel
theorem dX8_discard_42 : decode cX8_discard 42 = .ok (.invokevirtual 60, 3) := by decide +kernel
theorem dX8_discard_45 : decode cX8_discard 45 = .ok (.ireturn, 1) := by decide +kernel
set_option maxRecDepth 20000 in
theorem ggX8_undo_X2_set : GoodIn wsX8_undo wsX2_set := goodIn_r _ [8, 9, 10, 11, 12, 231, 232, 233, 234] (by decide +kernel) (by decide +kernel)
set_option maxRecDepth 20000 in
theorem gX8_undo_X2_set : GoodIn wsX8_undo (wsV RX8 48 RX2 yX2_set wsX2_set) := goodIn_app (goodIn_of _ (by decide +kernel)) ggX8_undo_X2_set
set_option maxRecDepth 20000 in
theorem ggX8_undo_X6_isUp : GoodIn wsX8_undo wsX6_isUp := goodIn_r _ [17, 18, 235, 236, 237, 238, 239] (by decide +kernel) (by decide +kernel)
set_option maxRecDepth 20000 in
theorem gX8_undo_X6_isUp : GoodIn wsX8_undo (wsV RX8 83 RX6 yX6_isUp wsX6_isUp) := goodIn_app (goodIn_of _ (by decide +kernel)) ggX8_undo_X6_isUp
set_option maxRecDepth 20000 in
theorem ggX8_undo_X8_refusalOfRoom : GoodIn wsX8_undo wsX8_refusalOfRoom := goodIn_r _ [23, 24, 1, 25, 26, 27, 28, 29, 30, 31, 32, 33, 7, 34, 35, 36, 37, 38, 9, 39, 40, 41, 42, 43, 44, 45, 46, 47, 48, 49, 50, 51, 52, 53, 54, 55, 56, 57, 227, 228, 229, 230, 240, 241, 242, 243, 244, 245, 231, 232, 233, 234, 246] (by decide +kernel) (by decide +kernel)
set_option maxRecDepth 20000 in
theorem gX8_undo_X8_refusalOfRoom : GoodIn wsX8_undo (wsV RX8 80 RX8 yX8_refusalOfRoom wsX8_refusalOfRoom) := goodIn_app (goodIn_of _ (by decide +kernel)) ggX8_undo_X8_refusalOfRoom
set_option maxRecDepth 20000 in
theorem ggX8_undo_X7_pastActs : GoodIn wsX8_undo wsX7_pastActs := goodIn_r _ [62, 63, 64, 65, 66, 67, 68, 69, 247, 248, 249, 250, 251, 252, 253, 254, 255, 256, 257, 258, 259] (by decide +kernel) (by decide +kernel)
set_option maxRecDepth 20000 in
theorem gX8_undo_X7_pastActs : GoodIn wsX8_undo (wsV RX8 87 RX7 yX7_pastActs wsX7_pastActs) := goodIn_app (goodIn_of _ (by decide +kernel)) ggX8_undo_X7_pastActs
set_option maxRecDepth 20000 in
theorem ggX8_undo_X8_carryOut : GoodIn wsX8_undo wsX8_carryOut := goodIn_r _ [73, 24, 1, 3, 74, 75, 76, 28, 77, 78, 79, 30, 80, 81, 82, 83, 84, 51, 85, 86, 87, 88, 89, 90, 91, 92, 93, 94, 95, 96, 97, 98, 32, 33, 7, 34, 35, 36, 37, 38, 9, 39, 40, 41, 42, 43, 44, 45, 46, 99, 100, 101, 102, 103, 104, 105, 106, 107, 108, 109, 110, 111, 112, 113, 114, 115, 16, 116, 18, 117, 118, 119, 120, 121, 122, 123, 55, 124, 57, 125, 126, 127, 128, 129, 130, 131, 14, 15, 17, 132, 133, 134, 135, 136, 137, 138, 61, 139, 140, 141, 142, 143, 144, 145, 146, 147, 148, 63, 149, 150, 151, 152, 153, 154, 155, 156, 157, 158, 159, 160, 161, 162, 163, 164, 165, 166, 167, 67, 168, 69, 169, 170, 171, 172, 173, 174, 175, 176, 177, 178, 179, 180, 181, 182, 183, 184, 185, 186, 187, 188, 189, 190, 191, 192, 193, 194, 195, 196, 197, 198, 199, 200, 201, 202, 203, 204, 205, 206, 207, 208, 209, 210, 211, 212, 213, 214, 215, 216, 217, 218, 219, 220, 221, 222, 223, 224, 225, 226, 227, 228, 229, 230, 240, 241, 242, 243, 244, 245, 260, 261, 262, 263, 231, 232, 233, 234, 235, 236, 237, 238, 239, 246, 247, 248, 249, 250, 251, 252, 253, 254, 255, 256, 257, 258, 259] (by decide +kernel) (by decide +kernel)
set_option maxRecDepth 20000 in
theorem gX8_undo_X8_carryOut : GoodIn wsX8_undo (wsV RX8 60 RX8 yX8_carryOut wsX8_carryOut) := goodIn_app (goodIn_of _ (by decide +kernel)) ggX8_undo_X8_carryOut
theorem dX8_undo_0 : decode cX8_undo 0 = .ok (.aload_n 0, 1) := by decide +kernel
theorem dX8_undo_1 : decode cX8_undo 1 = .ok (.getfield 44, 3) := by decide +kernel
theorem dX8_undo_4 : decode cX8_undo 4 = .ok (.iconst 5, 1) := by decide +kernel
theorem dX8_undo_5 : decode cX8_undo 5 = .ok (.iconst 0, 1) := by decide +kernel
theorem dX8_undo_6 : decode cX8_undo 6 = .ok (.iconst 0, 1) := by decide +kernel
theorem dX8_undo_7 : decode cX8_undo 7 = .ok (.lconst 0, 1) := by decide +kernel
theorem dX8_undo_8 : decode cX8_undo 8 = .ok (.invokevirtual 48, 3) := by decide +kernel
theorem dX8_undo_11 : decode cX8_undo 11 = .ok (.aload_n 0, 1) := by decide +kernel
theorem dX8_undo_12 : decode cX8_undo 12 = .ok (.getfield 12, 3) := by decide +kernel
theorem dX8_undo_15 : decode cX8_undo 15 = .ok (.invokevirtual 83, 3) := by decide +kernel
theorem dX8_undo_18 : decode cX8_undo 18 = .ok (.ifCond .ne 5, 3) := by decide +kernel
theorem dX8_undo_21 : decode cX8_undo 21 = .ok (.iconst (-1), 1) := by decide +kernel
theorem dX8_undo_22 : decode cX8_undo 22 = .ok (.ireturn, 1) := by decide +kernel
theorem dX8_undo_23 : decode cX8_undo 23 = .ok (.aload_n 0, 1) := by decide +kernel
theorem dX8_undo_24 : decode cX8_undo 24 = .ok (.invokevirtual 80, 3) := by decide +kernel
theorem dX8_undo_27 : decode cX8_undo 27 = .ok (.istore_n 1, 1) := by decide +kernel
theorem dX8_undo_28 : decode cX8_undo 28 = .ok (.iload_n 1, 1) := by decide +kernel
theorem dX8_undo_29 : decode cX8_undo 29 = .ok (.ifCond .ne 16, 3) := by decide +kernel
theorem dX8_undo_32 : decode cX8_undo 32 = .ok (.aload_n 0, 1) := by decide +kernel
theorem dX8_undo_33 : decode cX8_undo 33 = .ok (.getfield 37, 3) := by decide +kernel
theorem dX8_undo_36 : decode cX8_undo 36 = .ok (.invokevirtual 87, 3) := by decide +kernel
theorem dX8_undo_39 : decode cX8_undo 39 = .ok (.ifCond .ne 6, 3) := by decide +kernel
theorem dX8_undo_42 : decode cX8_undo 42 = .ok (.bipush (-7), 2) := by decide +kernel
theorem dX8_undo_44 : decode cX8_undo 44 = .ok (.istore_n 1, 1) := by decide +kernel
theorem dX8_undo_45 : decode cX8_undo 45 = .ok (.aload_n 0, 1) := by decide +kernel
theorem dX8_undo_46 : decode cX8_undo 46 = .ok (.iload_n 1, 1) := by decide +kernel
theorem dX8_undo_47 : decode cX8_undo 47 = .ok (.invokevirtual 60, 3) := by decide +kernel
theorem dX8_undo_50 : decode cX8_undo 50 = .ok (.istore_n 1, 1) := by decide +kernel
theorem dX8_undo_51 : decode cX8_undo 51 = .ok (.iload_n 1, 1) := by decide +kernel
theorem dX8_undo_52 : decode cX8_undo 52 = .ok (.ifCond .ne 13, 3) := by decide +kernel
theorem dX8_undo_55 : decode cX8_undo 55 = .ok (.aload_n 0, 1) := by decide +kernel
theorem dX8_undo_56 : decode cX8_undo 56 = .ok (.getfield 37, 3) := by decide +kernel
theorem dX8_undo_59 : decode cX8_undo 59 = .ok (.invokevirtual 87, 3) := by decide +kernel
theorem dX8_undo_62 : decode cX8_undo 62 = .ok (.goto 4, 3) := by decide +kernel
theorem dX8_undo_65 : decode cX8_undo 65 = .ok (.iload_n 1, 1) := by decide +kernel
theorem dX8_undo_66 : decode cX8_undo 66 = .ok (.ireturn, 1) := by decide +kernel
set_option maxRecDepth 20000 in
theorem ggX8_compact_X6_isUp : GoodIn wsX8_compact wsX6_isUp := goodIn_r _ [9, 10, 186, 187, 188, 189, 190] (by decide +kernel) (by decide +kernel)
set_option maxRecDepth 20000 in
theorem gX8_compact_X6_isUp : GoodIn wsX8_compact (wsV RX8 83 RX6 yX6_isUp wsX6_isUp) := goodIn_app (goodIn_of _ (by decide +kernel)) ggX8_compact_X6_isUp
set_option maxRecDepth 20000 in
theorem ggX8_compact_X7_sampleCount : GoodIn wsX8_compact wsX7_sampleCount := goodIn_r _ [15, 16, 191, 192, 193, 194, 195, 196, 197] (by decide +kernel) (by decide +kernel)
set_option maxRecDepth 20000 in
theorem gX8_compact_X7_sampleCount : GoodIn wsX8_compact (wsV RX8 64 RX7 yX7_sampleCount wsX7_sampleCount) := goodIn_app (goodIn_of _ (by decide +kernel)) ggX8_compact_X7_sampleCount
set_option maxRecDepth 20000 in
theorem ggX8_compact_X3_otherBankHolds : GoodIn wsX8_compact wsX3_otherBankHolds := goodIn_r _ [21, 22, 23, 24, 20, 25, 26, 27, 28, 29, 30, 31, 32, 198, 199, 200, 201, 202, 203, 204] (by decide +kernel) (by decide +kernel)
set_option maxRecDepth 20000 in
theorem gX8_compact_X3_otherBankHolds : GoodIn wsX8_compact (wsV RX8 90 RX3 yX3_otherBankHolds wsX3_otherBankHolds) := goodIn_app (goodIn_of _ (by decide +kernel)) ggX8_compact_X3_otherBankHolds
set_option maxRecDepth 20000 in
theorem ggX8_compact_X3_writeAnew : GoodIn wsX8_compact wsX3_writeAnew := goodIn_r _ [36, 37, 38, 39, 40, 41, 42, 43, 20, 44, 26, 45, 46, 47, 48, 49, 50, 51, 52, 27, 28, 29, 30, 31, 32, 53, 54, 55, 56, 57, 58, 59, 60, 61, 62, 63, 64, 8, 65, 10, 66, 67, 68, 69, 70, 71, 72, 73, 74, 75, 76, 14, 77, 78, 79, 80, 81, 82, 83, 84, 85, 86, 87, 88, 89, 90, 91, 92, 93, 94, 95, 96, 97, 98, 99, 100, 101, 102, 103, 104, 105, 106, 107, 108, 109, 110, 111, 112, 113, 114, 115, 116, 117, 118, 119, 120, 121, 122, 123, 124, 12, 13, 15, 16, 125, 126, 127, 128, 129, 130, 131, 132, 133, 134, 135, 136, 137, 138, 139, 140, 141, 142, 143, 144, 145, 146, 147, 148, 149, 150, 151, 152, 153, 154, 155, 156, 157, 158, 159, 160, 161, 162, 163, 164, 165, 166, 167, 168, 169, 170, 6, 7, 9, 198, 199, 200, 201, 202, 203, 205, 206, 207, 208, 204, 186, 187, 188, 189, 190, 191, 192, 193, 194, 195, 196, 197, 209, 210, 211, 212] (by decide +kernel) (by decide +kernel)
set_option maxRecDepth 20000 in
theorem gX8_compact_X3_writeAnew : GoodIn wsX8_compact (wsV RX8 93 RX3 yX3_writeAnew wsX3_writeAnew) := goodIn_app (goodIn_of _ (by decide +kernel)) ggX8_compact_X3_writeAnew
set_option maxRecDepth 20000 in
theorem ggX8_compact_X7_forgetPast : GoodIn wsX8_compact wsX7_forgetPast := goodIn_r _ [174, 175, 176, 177, 178, 179, 180, 181, 191, 192, 193, 194, 195, 196, 197, 213, 214, 215, 216, 217, 218] (by decide +kernel) (by decide +kernel)
set_option maxRecDepth 20000 in
theorem gX8_compact_X7_forgetPast : GoodIn wsX8_compact (wsV RX8 97 RX7 yX7_forgetPast wsX7_forgetPast) := goodIn_app (goodIn_of _ (by decide +kernel)) ggX8_compact_X7_forgetPast
theorem dX8_compact_0 : decode cX8_compact 0 = .ok (.aload_n 0, 1) := by decide +kernel
theorem dX8_compact_1 : decode cX8_compact 1 = .ok (.getfield 12, 3) := by decide +kernel
theorem dX8_compact_4 : decode cX8_compact 4 = .ok (.invokevirtual 83, 3) := by decide +kernel
theorem dX8_compact_7 : decode cX8_compact 7 = .ok (.ifCond .ne 5, 3) := by decide +kernel
theorem dX8_compact_10 : decode cX8_compact 10 = .ok (.iconst (-1), 1) := by decide +kernel
theorem dX8_compact_11 : decode cX8_compact 11 = .ok (.ireturn, 1) := by decide +kernel
theorem dX8_compact_12 : decode cX8_compact 12 = .ok (.aload_n 0, 1) := by decide +kernel
theorem dX8_compact_13 : decode cX8_compact 13 = .ok (.getfield 30, 3) := by decide +kernel
theorem dX8_compact_16 : decode cX8_compact 16 = .ok (.aload_n 0, 1) := by decide +kernel
theorem dX8_compact_17 : decode cX8_compact 17 = .ok (.getfield 37, 3) := by decide +kernel
theorem dX8_compact_20 : decode cX8_compact 20 = .ok (.invokevirtual 64, 3) := by decide +kernel
theorem dX8_compact_23 : decode cX8_compact 23 = .ok (.invokevirtual 90, 3) := by decide +kernel
theorem dX8_compact_26 : decode cX8_compact 26 = .ok (.ifCond .ne 6, 3) := by decide +kernel
theorem dX8_compact_29 : decode cX8_compact 29 = .ok (.bipush (-6), 2) := by decide +kernel
theorem dX8_compact_31 : decode cX8_compact 31 = .ok (.ireturn, 1) := by decide +kernel
theorem dX8_compact_32 : decode cX8_compact 32 = .ok (.aload_n 0, 1) := by decide +kernel
theorem dX8_compact_33 : decode cX8_compact 33 = .ok (.getfield 30, 3) := by decide +kernel
theorem dX8_compact_36 : decode cX8_compact 36 = .ok (.aload_n 0, 1) := by decide +kernel
theorem dX8_compact_37 : decode cX8_compact 37 = .ok (.getfield 37, 3) := by decide +kernel
theorem dX8_compact_40 : decode cX8_compact 40 = .ok (.aload_n 0, 1) := by decide +kernel
theorem dX8_compact_41 : decode cX8_compact 41 = .ok (.getfield 44, 3) := by decide +kernel
theorem dX8_compact_44 : decode cX8_compact 44 = .ok (.invokevirtual 93, 3) := by decide +kernel
theorem dX8_compact_47 : decode cX8_compact 47 = .ok (.ifCond .ne 5, 3) := by decide +kernel
theorem dX8_compact_50 : decode cX8_compact 50 = .ok (.iconst (-1), 1) := by decide +kernel
theorem dX8_compact_51 : decode cX8_compact 51 = .ok (.ireturn, 1) := by decide +kernel
theorem dX8_compact_52 : decode cX8_compact 52 = .ok (.aload_n 0, 1) := by decide +kernel
theorem dX8_compact_53 : decode cX8_compact 53 = .ok (.getfield 37, 3) := by decide +kernel
theorem dX8_compact_56 : decode cX8_compact 56 = .ok (.invokevirtual 97, 3) := by decide +kernel
theorem dX8_compact_59 : decode cX8_compact 59 = .ok (.iconst 0, 1) := by decide +kernel
theorem dX8_compact_60 : decode cX8_compact 60 = .ok (.ireturn, 1) := by decide +kernel
set_option maxRecDepth 20000 in
theorem ggX8_cut_X6_isUp : GoodIn wsX8_cut wsX6_isUp := goodIn_r _ [6, 7, 18, 19, 20, 21, 22] (by decide +kernel) (by decide +kernel)
set_option maxRecDepth 20000 in
theorem gX8_cut_X6_isUp : GoodIn wsX8_cut (wsV RX8 83 RX6 yX6_isUp wsX6_isUp) := goodIn_app (goodIn_of _ (by decide +kernel)) ggX8_cut_X6_isUp
set_option maxRecDepth 20000 in
theorem ggX8_cut_X6_failBehind : GoodIn wsX8_cut wsX6_failBehind := goodIn_r _ [11, 12, 13, 18, 19, 20, 21, 22] (by decide +kernel) (by decide +kernel)
set_option maxRecDepth 20000 in
theorem gX8_cut_X6_failBehind : GoodIn wsX8_cut (wsV RX8 100 RX6 yX6_failBehind wsX6_failBehind) := goodIn_app (goodIn_of _ (by decide +kernel)) ggX8_cut_X6_failBehind
theorem dX8_cut_0 : decode cX8_cut 0 = .ok (.iload_n 1, 1) := by decide +kernel
theorem dX8_cut_1 : decode cX8_cut 1 = .ok (.ifCond .lt 13, 3) := by decide +kernel
theorem dX8_cut_4 : decode cX8_cut 4 = .ok (.aload_n 0, 1) := by decide +kernel
theorem dX8_cut_5 : decode cX8_cut 5 = .ok (.getfield 12, 3) := by decide +kernel
theorem dX8_cut_8 : decode cX8_cut 8 = .ok (.invokevirtual 83, 3) := by decide +kernel
theorem dX8_cut_11 : decode cX8_cut 11 = .ok (.ifCond .ne 5, 3) := by decide +kernel
theorem dX8_cut_14 : decode cX8_cut 14 = .ok (.iconst (-1), 1) := by decide +kernel
theorem dX8_cut_15 : decode cX8_cut 15 = .ok (.ireturn, 1) := by decide +kernel
theorem dX8_cut_16 : decode cX8_cut 16 = .ok (.aload_n 0, 1) := by decide +kernel
theorem dX8_cut_17 : decode cX8_cut 17 = .ok (.getfield 12, 3) := by decide +kernel
theorem dX8_cut_20 : decode cX8_cut 20 = .ok (.iload_n 1, 1) := by decide +kernel
theorem dX8_cut_21 : decode cX8_cut 21 = .ok (.invokevirtual 100, 3) := by decide +kernel
theorem dX8_cut_24 : decode cX8_cut 24 = .ok (.iconst 1, 1) := by decide +kernel
theorem dX8_cut_25 : decode cX8_cut 25 = .ok (.ireturn, 1) := by decide +kernel
set_option maxRecDepth 20000 in
theorem ggX8_recover_X6_restore : GoodIn wsX8_recover wsX6_restore := goodIn_r _ [9, 10, 11, 202, 203, 204, 205, 206] (by decide +kernel) (by decide +kernel)
set_option maxRecDepth 20000 in
theorem gX8_recover_X6_restore : GoodIn wsX8_recover (wsV RX8 104 RX6 yX6_restore wsX6_restore) := goodIn_app (goodIn_of _ (by decide +kernel)) ggX8_recover_X6_restore
set_option maxRecDepth 20000 in
theorem ggX8_recover_X3_chooseBank : GoodIn wsX8_recover wsX3_chooseBank := goodIn_r _ [16, 17, 18, 19, 20, 21, 22, 23, 24, 25, 26, 27, 28, 29, 30, 31, 32, 33, 34, 35, 36, 37, 38, 39, 40, 41, 42, 43, 44, 45, 46, 47, 207, 208, 209, 210, 211, 212, 213] (by decide +kernel) (by decide +kernel)
set_option maxRecDepth 20000 in
theorem gX8_recover_X3_chooseBank : GoodIn wsX8_recover (wsV RX8 107 RX3 yX3_chooseBank wsX3_chooseBank) := goodIn_app (goodIn_of _ (by decide +kernel)) ggX8_recover_X3_chooseBank
set_option maxRecDepth 20000 in
theorem ggX8_recover_X7_makeEmpty : GoodIn wsX8_recover wsX7_makeEmpty := goodIn_r _ [52, 53, 54, 55, 56, 57, 58, 59, 60, 61, 214, 215, 216, 217, 218, 219, 220, 221, 222, 223, 224, 225, 226] (by decide +kernel) (by decide +kernel)
set_option maxRecDepth 20000 in
theorem gX8_recover_X7_makeEmpty : GoodIn wsX8_recover (wsV RX8 110 RX7 yX7_makeEmpty wsX7_makeEmpty) := goodIn_app (goodIn_of _ (by decide +kernel)) ggX8_recover_X7_makeEmpty
set_option maxRecDepth 20000 in
theorem ggX8_recover_X3_readNext : GoodIn wsX8_recover wsX3_readNext := goodIn_r _ [65, 19, 20, 66, 67, 68, 15, 69, 17, 18, 70, 71, 72, 24, 73, 34, 40, 41, 42, 43, 30, 31, 32, 33, 26, 27, 28, 29, 35, 36, 37, 38, 39, 44, 45, 46, 74, 75, 76, 77, 78, 79, 80, 81, 82, 83, 84, 85, 86, 87, 88, 89, 90, 91, 92, 93, 94, 95, 96, 207, 208, 209, 210, 211, 212, 213, 227, 228, 229, 230] (by decide +kernel) (by decide +kernel)
set_option maxRecDepth 20000 in
theorem gX8_recover_X3_readNext : GoodIn wsX8_recover (wsV RX8 113 RX3 yX3_readNext wsX3_readNext) := goodIn_app (goodIn_of _ (by decide +kernel)) ggX8_recover_X3_readNext
set_option maxRecDepth 20000 in
theorem ggX8_recover_X7_apply : GoodIn wsX8_recover wsX7_apply := goodIn_r _ [100, 54, 101, 102, 103, 51, 104, 105, 106, 107, 108, 55, 53, 109, 110, 111, 112, 113, 114, 115, 116, 117, 118, 119, 120, 121, 122, 123, 124, 125, 126, 59, 127, 61, 128, 129, 130, 131, 132, 133, 134, 135, 136, 137, 138, 139, 140, 141, 142, 143, 144, 145, 146, 147, 148, 149, 150, 151, 152, 153, 154, 155, 156, 157, 158, 159, 160, 161, 162, 163, 164, 165, 166, 167, 168, 169, 170, 171, 172, 173, 174, 175, 176, 177, 178, 179, 180, 181, 182, 183, 184, 185, 227, 228, 229, 230, 214, 215, 216, 217, 218, 219, 220, 221, 222, 223, 224, 225, 226] (by decide +kernel) (by decide +kernel)
set_option maxRecDepth 20000 in
theorem gX8_recover_X7_apply : GoodIn wsX8_recover (wsV RX8 117 RX7 yX7_apply wsX7_apply) := goodIn_app (goodIn_of _ (by decide +kernel)) ggX8_recover_X7_apply
set_option maxRecDepth 20000 in
theorem ggX8_recover_X3_blankTheRest : GoodIn wsX8_recover wsX3_blankTheRest := goodIn_r _ [189, 19, 20, 66, 67, 68, 15, 69, 17, 18, 190, 191, 192, 24, 193, 194, 195, 196, 197, 34, 207, 208, 209, 210, 211, 212, 213] (by decide +kernel) (by decide +kernel)
set_option maxRecDepth 20000 in
theorem gX8_recover_X3_blankTheRest : GoodIn wsX8_recover (wsV RX8 121 RX3 yX3_blankTheRest wsX3_blankTheRest) := goodIn_app (goodIn_of _ (by decide +kernel)) ggX8_recover_X3_blankTheRest
theorem dX8_recover_0 : decode cX8_recover 0 = .ok (.aload_n 0, 1) := by decide +kernel
theorem dX8_recover_1 : decode cX8_recover 1 = .ok (.getfield 12, 3) := by decide +kernel
theorem dX8_recover_4 : decode cX8_recover 4 = .ok (.invokevirtual 104, 3) := by decide +kernel
theorem dX8_recover_7 : decode cX8_recover 7 = .ok (.aload_n 0, 1) := by decide +kernel
theorem dX8_recover_8 : decode cX8_recover 8 = .ok (.getfield 30, 3) := by decide +kernel
theorem dX8_recover_11 : decode cX8_recover 11 = .ok (.invokevirtual 107, 3) := by decide +kernel
theorem dX8_recover_14 : decode cX8_recover 14 = .ok (.aload_n 0, 1) := by decide +kernel
theorem dX8_recover_15 : decode cX8_recover 15 = .ok (.getfield 37, 3) := by decide +kernel
theorem dX8_recover_18 : decode cX8_recover 18 = .ok (.invokevirtual 110, 3) := by decide +kernel
theorem dX8_recover_21 : decode cX8_recover 21 = .ok (.iconst 0, 1) := by decide +kernel
theorem dX8_recover_22 : decode cX8_recover 22 = .ok (.istore_n 1, 1) := by decide +kernel
theorem dX8_recover_23 : decode cX8_recover 23 = .ok (.iload_n 1, 1) := by decide +kernel
theorem dX8_recover_24 : decode cX8_recover 24 = .ok (.sipush 256, 3) := by decide +kernel
theorem dX8_recover_27 : decode cX8_recover 27 = .ok (.if_icmp .ge 34, 3) := by decide +kernel
theorem dX8_recover_30 : decode cX8_recover 30 = .ok (.aload_n 0, 1) := by decide +kernel
theorem dX8_recover_31 : decode cX8_recover 31 = .ok (.getfield 30, 3) := by decide +kernel
theorem dX8_recover_34 : decode cX8_recover 34 = .ok (.aload_n 0, 1) := by decide +kernel
theorem dX8_recover_35 : decode cX8_recover 35 = .ok (.getfield 44, 3) := by decide +kernel
theorem dX8_recover_38 : decode cX8_recover 38 = .ok (.invokevirtual 113, 3) := by decide +kernel
theorem dX8_recover_41 : decode cX8_recover 41 = .ok (.ifCond .eq 20, 3) := by decide +kernel
theorem dX8_recover_44 : decode cX8_recover 44 = .ok (.aload_n 0, 1) := by decide +kernel
theorem dX8_recover_45 : decode cX8_recover 45 = .ok (.getfield 37, 3) := by decide +kernel
theorem dX8_recover_48 : decode cX8_recover 48 = .ok (.aload_n 0, 1) := by decide +kernel
theorem dX8_recover_49 : decode cX8_recover 49 = .ok (.getfield 44, 3) := by decide +kernel
theorem dX8_recover_52 : decode cX8_recover 52 = .ok (.invokevirtual 117, 3) := by decide +kernel
theorem dX8_recover_55 : decode cX8_recover 55 = .ok (.iinc 1 1, 3) := by decide +kernel
theorem dX8_recover_58 : decode cX8_recover 58 = .ok (.goto (-35), 3) := by decide +kernel
theorem dX8_recover_61 : decode cX8_recover 61 = .ok (.aload_n 0, 1) := by decide +kernel
theorem dX8_recover_62 : decode cX8_recover 62 = .ok (.getfield 30, 3) := by decide +kernel
theorem dX8_recover_65 : decode cX8_recover 65 = .ok (.invokevirtual 121, 3) := by decide +kernel
theorem dX8_recover_68 : decode cX8_recover 68 = .ok (.iload_n 1, 1) := by decide +kernel
theorem dX8_recover_69 : decode cX8_recover 69 = .ok (.ireturn, 1) := by decide +kernel
set_option maxRecDepth 20000 in
theorem ggX8_octet_X3_bank : GoodIn wsX8_octet wsX3_bank := goodIn_r _ [6, 7, 8, 19, 20, 21, 22, 23, 24] (by decide +kernel) (by decide +kernel)
set_option maxRecDepth 20000 in
theorem gX8_octet_X3_bank : GoodIn wsX8_octet (wsV RX8 124 RX3 yX3_bank wsX3_bank) := goodIn_app (goodIn_of _ (by decide +kernel)) ggX8_octet_X3_bank
set_option maxRecDepth 20000 in
theorem ggX8_octet_X0_at : GoodIn wsX8_octet wsX0_at := goodIn_r _ [13, 14, 25] (by decide +kernel) (by decide +kernel)
set_option maxRecDepth 20000 in
theorem gX8_octet_X0_at : GoodIn wsX8_octet (wsV RX8 128 RX0 yX0_at wsX0_at) := goodIn_app (goodIn_of _ (by decide +kernel)) ggX8_octet_X0_at
theorem dX8_octet_0 : decode cX8_octet 0 = .ok (.iload_n 1, 1) := by decide +kernel
theorem dX8_octet_1 : decode cX8_octet 1 = .ok (.ifCond .eq 8, 3) := by decide +kernel
theorem dX8_octet_4 : decode cX8_octet 4 = .ok (.iload_n 1, 1) := by decide +kernel
theorem dX8_octet_5 : decode cX8_octet 5 = .ok (.iconst 1, 1) := by decide +kernel
theorem dX8_octet_6 : decode cX8_octet 6 = .ok (.if_icmp .ne 18, 3) := by decide +kernel
theorem dX8_octet_9 : decode cX8_octet 9 = .ok (.aload_n 0, 1) := by decide +kernel
theorem dX8_octet_10 : decode cX8_octet 10 = .ok (.getfield 30, 3) := by decide +kernel
theorem dX8_octet_13 : decode cX8_octet 13 = .ok (.iload_n 1, 1) := by decide +kernel
theorem dX8_octet_14 : decode cX8_octet 14 = .ok (.invokevirtual 124, 3) := by decide +kernel
theorem dX8_octet_17 : decode cX8_octet 17 = .ok (.iload_n 2, 1) := by decide +kernel
theorem dX8_octet_18 : decode cX8_octet 18 = .ok (.invokevirtual 128, 3) := by decide +kernel
theorem dX8_octet_21 : decode cX8_octet 21 = .ok (.goto 4, 3) := by decide +kernel
theorem dX8_octet_24 : decode cX8_octet 24 = .ok (.iconst (-1), 1) := by decide +kernel
theorem dX8_octet_25 : decode cX8_octet 25 = .ok (.ireturn, 1) := by decide +kernel
set_option maxRecDepth 20000 in
theorem ggX8_sample_X6_isUp : GoodIn wsX8_sample wsX6_isUp := goodIn_r _ [7, 8, 44, 45, 46, 47, 48] (by decide +kernel) (by decide +kernel)
set_option maxRecDepth 20000 in
theorem gX8_sample_X6_isUp : GoodIn wsX8_sample (wsV RX8 83 RX6 yX6_isUp wsX6_isUp) := goodIn_app (goodIn_of _ (by decide +kernel)) ggX8_sample_X6_isUp
set_option maxRecDepth 20000 in
theorem ggX8_sample_X7_isSample : GoodIn wsX8_sample wsX7_isSample := goodIn_r _ [13, 14, 49, 50, 51, 52, 53, 54, 55] (by decide +kernel) (by decide +kernel)
set_option maxRecDepth 20000 in
theorem gX8_sample_X7_isSample : GoodIn wsX8_sample (wsV RX8 133 RX7 yX7_isSample wsX7_isSample) := goodIn_app (goodIn_of _ (by decide +kernel)) ggX8_sample_X7_isSample
set_option maxRecDepth 20000 in
theorem ggX8_sample_X7_parentOf : GoodIn wsX8_sample wsX7_parentOf := goodIn_r _ [18, 19, 20, 10, 11, 12, 13, 14, 49, 50, 51, 52, 53, 54, 55] (by decide +kernel) (by decide +kernel)
set_option maxRecDepth 20000 in
theorem gX8_sample_X7_parentOf : GoodIn wsX8_sample (wsV RX8 136 RX7 yX7_parentOf wsX7_parentOf) := goodIn_app (goodIn_of _ (by decide +kernel)) ggX8_sample_X7_parentOf
set_option maxRecDepth 20000 in
theorem ggX8_sample_X7_wellOf : GoodIn wsX8_sample wsX7_wellOf := goodIn_r _ [24, 25, 20, 10, 11, 12, 13, 14, 49, 50, 51, 52, 53, 54, 55] (by decide +kernel) (by decide +kernel)
set_option maxRecDepth 20000 in
theorem gX8_sample_X7_wellOf : GoodIn wsX8_sample (wsV RX8 139 RX7 yX7_wellOf wsX7_wellOf) := goodIn_app (goodIn_of _ (by decide +kernel)) ggX8_sample_X7_wellOf
set_option maxRecDepth 20000 in
theorem ggX8_sample_X7_childrenOf : GoodIn wsX8_sample wsX7_childrenOf := goodIn_r _ [29, 14, 30, 16, 17, 12, 18, 19, 20, 10, 11, 13, 49, 50, 51, 52, 53, 54, 55] (by decide +kernel) (by decide +kernel)
set_option maxRecDepth 20000 in
theorem gX8_sample_X7_childrenOf : GoodIn wsX8_sample (wsV RX8 142 RX7 yX7_childrenOf wsX7_childrenOf) := goodIn_app (goodIn_of _ (by decide +kernel)) ggX8_sample_X7_childrenOf
set_option maxRecDepth 20000 in
theorem ggX8_sample_X7_stepsToOrigin : GoodIn wsX8_sample wsX7_stepsToOrigin := goodIn_r _ [34, 30, 16, 17, 12, 18, 19, 20, 10, 11, 13, 14, 49, 50, 51, 52, 53, 54, 55] (by decide +kernel) (by decide +kernel)
set_option maxRecDepth 20000 in
theorem gX8_sample_X7_stepsToOrigin : GoodIn wsX8_sample (wsV RX8 145 RX7 yX7_stepsToOrigin wsX7_stepsToOrigin) := goodIn_app (goodIn_of _ (by decide +kernel)) ggX8_sample_X7_stepsToOrigin
set_option maxRecDepth 20000 in
theorem ggX8_sample_X7_originOf : GoodIn wsX8_sample wsX7_originOf := goodIn_r _ [38, 39, 32, 33, 12, 34, 30, 16, 17, 18, 19, 20, 10, 11, 13, 14, 49, 50, 51, 52, 53, 54, 55] (by decide +kernel) (by decide +kernel)
set_option maxRecDepth 20000 in
theorem gX8_sample_X7_originOf : GoodIn wsX8_sample (wsV RX8 148 RX7 yX7_originOf wsX7_originOf) := goodIn_app (goodIn_of _ (by decide +kernel)) ggX8_sample_X7_originOf
theorem dX8_sample_0 : decode cX8_sample 0 = .ok (.aload_n 0, 1) := by decide +kernel
theorem dX8_sample_1 : decode cX8_sample 1 = .ok (.getfield 12, 3) := by decide +kernel
theorem dX8_sample_4 : decode cX8_sample 4 = .ok (.invokevirtual 83, 3) := by decide +kernel
theorem dX8_sample_7 : decode cX8_sample 7 = .ok (.ifCond .eq 14, 3) := by decide +kernel
theorem dX8_sample_10 : decode cX8_sample 10 = .ok (.aload_n 0, 1) := by decide +kernel
theorem dX8_sample_11 : decode cX8_sample 11 = .ok (.getfield 37, 3) := by decide +kernel
theorem dX8_sample_14 : decode cX8_sample 14 = .ok (.iload_n 1, 1) := by decide +kernel
theorem dX8_sample_15 : decode cX8_sample 15 = .ok (.invokevirtual 133, 3) := by decide +kernel
theorem dX8_sample_18 : decode cX8_sample 18 = .ok (.ifCond .ne 5, 3) := by decide +kernel
theorem dX8_sample_21 : decode cX8_sample 21 = .ok (.iconst (-1), 1) := by decide +kernel
theorem dX8_sample_22 : decode cX8_sample 22 = .ok (.ireturn, 1) := by decide +kernel
theorem dX8_sample_23 : decode cX8_sample 23 = .ok (.iload_n 2, 1) := by decide +kernel
theorem dX8_sample_24 : decode cX8_sample 24 = .ok (.tableswitch 81 0 4 #[36, 45, 54, 63, 72], 36) := by decide +kernel
theorem dX8_sample_60 : decode cX8_sample 60 = .ok (.aload_n 0, 1) := by decide +kernel
theorem dX8_sample_61 : decode cX8_sample 61 = .ok (.getfield 37, 3) := by decide +kernel
theorem dX8_sample_64 : decode cX8_sample 64 = .ok (.iload_n 1, 1) := by decide +kernel
theorem dX8_sample_65 : decode cX8_sample 65 = .ok (.invokevirtual 136, 3) := by decide +kernel
theorem dX8_sample_68 : decode cX8_sample 68 = .ok (.ireturn, 1) := by decide +kernel
theorem dX8_sample_69 : decode cX8_sample 69 = .ok (.aload_n 0, 1) := by decide +kernel
theorem dX8_sample_70 : decode cX8_sample 70 = .ok (.getfield 37, 3) := by decide +kernel
theorem dX8_sample_73 : decode cX8_sample 73 = .ok (.iload_n 1, 1) := by decide +kernel
theorem dX8_sample_74 : decode cX8_sample 74 = .ok (.invokevirtual 139, 3) := by decide +kernel
theorem dX8_sample_77 : decode cX8_sample 77 = .ok (.ireturn, 1) := by decide +kernel
theorem dX8_sample_78 : decode cX8_sample 78 = .ok (.aload_n 0, 1) := by decide +kernel
theorem dX8_sample_79 : decode cX8_sample 79 = .ok (.getfield 37, 3) := by decide +kernel
theorem dX8_sample_82 : decode cX8_sample 82 = .ok (.iload_n 1, 1) := by decide +kernel
theorem dX8_sample_83 : decode cX8_sample 83 = .ok (.invokevirtual 142, 3) := by decide +kernel
theorem dX8_sample_86 : decode cX8_sample 86 = .ok (.ireturn, 1) := by decide +kernel
theorem dX8_sample_87 : decode cX8_sample 87 = .ok (.aload_n 0, 1) := by decide +kernel
theorem dX8_sample_88 : decode cX8_sample 88 = .ok (.getfield 37, 3) := by decide +kernel
theorem dX8_sample_91 : decode cX8_sample 91 = .ok (.iload_n 1, 1) := by decide +kernel
theorem dX8_sample_92 : decode cX8_sample 92 = .ok (.invokevirtual 145, 3) := by decide +kernel
theorem dX8_sample_95 : decode cX8_sample 95 = .ok (.ireturn, 1) := by decide +kernel
theorem dX8_sample_96 : decode cX8_sample 96 = .ok (.aload_n 0, 1) := by decide +kernel
theorem dX8_sample_97 : decode cX8_sample 97 = .ok (.getfield 37, 3) := by decide +kernel
theorem dX8_sample_100 : decode cX8_sample 100 = .ok (.iload_n 1, 1) := by decide +kernel
theorem dX8_sample_101 : decode cX8_sample 101 = .ok (.invokevirtual 148, 3) := by decide +kernel
theorem dX8_sample_104 : decode cX8_sample 104 = .ok (.ireturn, 1) := by decide +kernel
theorem dX8_sample_105 : decode cX8_sample 105 = .ok (.iconst (-1), 1) := by decide +kernel
theorem dX8_sample_106 : decode cX8_sample 106 = .ok (.ireturn, 1) := by decide +kernel
set_option maxRecDepth 20000 in
theorem ggX8_volume_X6_isUp : GoodIn wsX8_volume wsX6_isUp := goodIn_r _ [8, 9, 26, 27, 28, 29, 30] (by decide +kernel) (by decide +kernel)
set_option maxRecDepth 20000 in
theorem gX8_volume_X6_isUp : GoodIn wsX8_volume (wsV RX8 83 RX6 yX6_isUp wsX6_isUp) := goodIn_app (goodIn_of _ (by decide +kernel)) ggX8_volume_X6_isUp
set_option maxRecDepth 20000 in
theorem ggX8_volume_X7_volumeOf : GoodIn wsX8_volume wsX7_volumeOf := goodIn_r _ [14, 15, 16, 17, 18, 19, 13, 20, 21, 31, 32, 33, 34, 35, 36, 37] (by decide +kernel) (by decide +kernel)
set_option maxRecDepth 20000 in
theorem gX8_volume_X7_volumeOf : GoodIn wsX8_volume (wsV RX8 72 RX7 yX7_volumeOf wsX7_volumeOf) := goodIn_app (goodIn_of _ (by decide +kernel)) ggX8_volume_X7_volumeOf
theorem dX8_volume_0 : decode cX8_volume 0 = .ok (.aload_n 0, 1) := by decide +kernel
theorem dX8_volume_1 : decode cX8_volume 1 = .ok (.getfield 12, 3) := by decide +kernel
theorem dX8_volume_4 : decode cX8_volume 4 = .ok (.invokevirtual 83, 3) := by decide +kernel
theorem dX8_volume_7 : decode cX8_volume 7 = .ok (.ifCond .eq 14, 3) := by decide +kernel
theorem dX8_volume_10 : decode cX8_volume 10 = .ok (.aload_n 0, 1) := by decide +kernel
theorem dX8_volume_11 : decode cX8_volume 11 = .ok (.getfield 37, 3) := by decide +kernel
theorem dX8_volume_14 : decode cX8_volume 14 = .ok (.iload_n 1, 1) := by decide +kernel
theorem dX8_volume_15 : decode cX8_volume 15 = .ok (.invokevirtual 72, 3) := by decide +kernel
theorem dX8_volume_18 : decode cX8_volume 18 = .ok (.goto 6, 3) := by decide +kernel
theorem dX8_volume_21 : decode cX8_volume 21 = .ok (.ldc2_w 151, 3) := by decide +kernel
theorem dX8_volume_24 : decode cX8_volume 24 = .ok (.lreturn, 1) := by decide +kernel
set_option maxRecDepth 20000 in
theorem ggX8_well_X6_isUp : GoodIn wsX8_well wsX6_isUp := goodIn_r _ [7, 8, 31, 32, 33, 34, 35] (by decide +kernel) (by decide +kernel)
set_option maxRecDepth 20000 in
theorem gX8_well_X6_isUp : GoodIn wsX8_well (wsV RX8 83 RX6 yX6_isUp wsX6_isUp) := goodIn_app (goodIn_of _ (by decide +kernel)) ggX8_well_X6_isUp
set_option maxRecDepth 20000 in
theorem ggX8_well_X7_sampleIn : GoodIn wsX8_well wsX7_sampleIn := goodIn_r _ [13, 14, 15, 16, 17, 18, 19, 20, 12, 21, 22, 23, 24, 25, 26, 36, 37, 38, 39, 40, 41, 42] (by decide +kernel) (by decide +kernel)
set_option maxRecDepth 20000 in
theorem gX8_well_X7_sampleIn : GoodIn wsX8_well (wsV RX8 153 RX7 yX7_sampleIn wsX7_sampleIn) := goodIn_app (goodIn_of _ (by decide +kernel)) ggX8_well_X7_sampleIn
theorem dX8_well_0 : decode cX8_well 0 = .ok (.aload_n 0, 1) := by decide +kernel
theorem dX8_well_1 : decode cX8_well 1 = .ok (.getfield 12, 3) := by decide +kernel
theorem dX8_well_4 : decode cX8_well 4 = .ok (.invokevirtual 83, 3) := by decide +kernel
theorem dX8_well_7 : decode cX8_well 7 = .ok (.ifCond .eq 14, 3) := by decide +kernel
theorem dX8_well_10 : decode cX8_well 10 = .ok (.aload_n 0, 1) := by decide +kernel
theorem dX8_well_11 : decode cX8_well 11 = .ok (.getfield 37, 3) := by decide +kernel
theorem dX8_well_14 : decode cX8_well 14 = .ok (.iload_n 1, 1) := by decide +kernel
theorem dX8_well_15 : decode cX8_well 15 = .ok (.invokevirtual 153, 3) := by decide +kernel
theorem dX8_well_18 : decode cX8_well 18 = .ok (.goto 4, 3) := by decide +kernel
theorem dX8_well_21 : decode cX8_well 21 = .ok (.iconst (-1), 1) := by decide +kernel
theorem dX8_well_22 : decode cX8_well 22 = .ok (.ireturn, 1) := by decide +kernel
set_option maxRecDepth 20000 in
theorem ggX8_total_X6_isUp : GoodIn wsX8_total wsX6_isUp := goodIn_r _ [8, 9, 45, 46, 47, 48, 49] (by decide +kernel) (by decide +kernel)
set_option maxRecDepth 20000 in
theorem gX8_total_X6_isUp : GoodIn wsX8_total (wsV RX8 83 RX6 yX6_isUp wsX6_isUp) := goodIn_app (goodIn_of _ (by decide +kernel)) ggX8_total_X6_isUp
set_option maxRecDepth 20000 in
theorem ggX8_total_X7_liveVolume : GoodIn wsX8_total wsX7_liveVolume := goodIn_r _ [14, 15, 16, 17, 18, 13, 19, 20, 21, 22, 23, 24, 25, 50, 51, 52, 53, 54, 55, 56] (by decide +kernel) (by decide +kernel)
set_option maxRecDepth 20000 in
theorem gX8_total_X7_liveVolume : GoodIn wsX8_total (wsV RX8 156 RX7 yX7_liveVolume wsX7_liveVolume) := goodIn_app (goodIn_of _ (by decide +kernel)) ggX8_total_X7_liveVolume
set_option maxRecDepth 20000 in
theorem ggX8_total_X7_lostVolume : GoodIn wsX8_total wsX7_lostVolume := goodIn_r _ [29, 30, 50, 51, 52, 53, 54, 55, 56] (by decide +kernel) (by decide +kernel)
set_option maxRecDepth 20000 in
theorem gX8_total_X7_lostVolume : GoodIn wsX8_total (wsV RX8 159 RX7 yX7_lostVolume wsX7_lostVolume) := goodIn_app (goodIn_of _ (by decide +kernel)) ggX8_total_X7_lostVolume
set_option maxRecDepth 20000 in
theorem ggX8_total_X7_volumeOfFamily : GoodIn wsX8_total wsX7_volumeOfFamily := goodIn_r _ [34, 21, 15, 35, 20, 22, 23, 24, 13, 25, 36, 37, 38, 39, 40, 50, 51, 52, 53, 54, 55, 56] (by decide +kernel) (by decide +kernel)
set_option maxRecDepth 20000 in
theorem gX8_total_X7_volumeOfFamily : GoodIn wsX8_total (wsV RX8 162 RX7 yX7_volumeOfFamily wsX7_volumeOfFamily) := goodIn_app (goodIn_of _ (by decide +kernel)) ggX8_total_X7_volumeOfFamily
theorem dX8_total_0 : decode cX8_total 0 = .ok (.aload_n 0, 1) := by decide +kernel
theorem dX8_total_1 : decode cX8_total 1 = .ok (.getfield 12, 3) := by decide +kernel
theorem dX8_total_4 : decode cX8_total 4 = .ok (.invokevirtual 83, 3) := by decide +kernel
theorem dX8_total_7 : decode cX8_total 7 = .ok (.ifCond .ne 7, 3) := by decide +kernel
theorem dX8_total_10 : decode cX8_total 10 = .ok (.ldc2_w 151, 3) := by decide +kernel
theorem dX8_total_13 : decode cX8_total 13 = .ok (.lreturn, 1) := by decide +kernel
theorem dX8_total_14 : decode cX8_total 14 = .ok (.iload_n 1, 1) := by decide +kernel
theorem dX8_total_15 : decode cX8_total 15 = .ok (.tableswitch 70 0 3 #[29, 37, 45, 61], 29) := by decide +kernel
theorem dX8_total_44 : decode cX8_total 44 = .ok (.aload_n 0, 1) := by decide +kernel
theorem dX8_total_45 : decode cX8_total 45 = .ok (.getfield 37, 3) := by decide +kernel
theorem dX8_total_48 : decode cX8_total 48 = .ok (.invokevirtual 156, 3) := by decide +kernel
theorem dX8_total_51 : decode cX8_total 51 = .ok (.lreturn, 1) := by decide +kernel
theorem dX8_total_52 : decode cX8_total 52 = .ok (.aload_n 0, 1) := by decide +kernel
theorem dX8_total_53 : decode cX8_total 53 = .ok (.getfield 37, 3) := by decide +kernel
theorem dX8_total_56 : decode cX8_total 56 = .ok (.invokevirtual 159, 3) := by decide +kernel
theorem dX8_total_59 : decode cX8_total 59 = .ok (.lreturn, 1) := by decide +kernel
theorem dX8_total_60 : decode cX8_total 60 = .ok (.aload_n 0, 1) := by decide +kernel
theorem dX8_total_61 : decode cX8_total 61 = .ok (.getfield 37, 3) := by decide +kernel
theorem dX8_total_64 : decode cX8_total 64 = .ok (.invokevirtual 156, 3) := by decide +kernel
theorem dX8_total_67 : decode cX8_total 67 = .ok (.aload_n 0, 1) := by decide +kernel
theorem dX8_total_68 : decode cX8_total 68 = .ok (.getfield 37, 3) := by decide +kernel
theorem dX8_total_71 : decode cX8_total 71 = .ok (.invokevirtual 159, 3) := by decide +kernel
theorem dX8_total_74 : decode cX8_total 74 = .ok (.ladd, 1) := by decide +kernel
theorem dX8_total_75 : decode cX8_total 75 = .ok (.lreturn, 1) := by decide +kernel
theorem dX8_total_76 : decode cX8_total 76 = .ok (.aload_n 0, 1) := by decide +kernel
theorem dX8_total_77 : decode cX8_total 77 = .ok (.getfield 37, 3) := by decide +kernel
theorem dX8_total_80 : decode cX8_total 80 = .ok (.iload_n 2, 1) := by decide +kernel
theorem dX8_total_81 : decode cX8_total 81 = .ok (.invokevirtual 162, 3) := by decide +kernel
theorem dX8_total_84 : decode cX8_total 84 = .ok (.lreturn, 1) := by decide +kernel
theorem dX8_total_85 : decode cX8_total 85 = .ok (.ldc2_w 151, 3) := by decide +kernel
theorem dX8_total_88 : decode cX8_total 88 = .ok (.lreturn, 1) := by decide +kernel
set_option maxRecDepth 20000 in
theorem ggX8_count_X6_isUp : GoodIn wsX8_count wsX6_isUp := goodIn_r _ [7, 8, 102, 103, 104, 105, 106] (by decide +kernel) (by decide +kernel)
set_option maxRecDepth 20000 in
theorem gX8_count_X6_isUp : GoodIn wsX8_count (wsV RX8 83 RX6 yX6_isUp wsX6_isUp) := goodIn_app (goodIn_of _ (by decide +kernel)) ggX8_count_X6_isUp
set_option maxRecDepth 20000 in
theorem ggX8_count_X3_bankBytes : GoodIn wsX8_count wsX3_bankBytes := goodIn_r _ [13, 14, 15, 16, 17, 18, 19, 20, 107, 108, 109, 110, 111, 112, 113] (by decide +kernel) (by decide +kernel)
set_option maxRecDepth 20000 in
theorem gX8_count_X3_bankBytes : GoodIn wsX8_count (wsV RX8 165 RX3 yX3_bankBytes wsX3_bankBytes) := goodIn_app (goodIn_of _ (by decide +kernel)) ggX8_count_X3_bankBytes
set_option maxRecDepth 20000 in
theorem ggX8_count_X6_bytesWritten : GoodIn wsX8_count wsX6_bytesWritten := goodIn_r _ [24, 25, 102, 103, 104, 105, 106] (by decide +kernel) (by decide +kernel)
set_option maxRecDepth 20000 in
theorem gX8_count_X6_bytesWritten : GoodIn wsX8_count (wsV RX8 168 RX6 yX6_bytesWritten wsX6_bytesWritten) := goodIn_app (goodIn_of _ (by decide +kernel)) ggX8_count_X6_bytesWritten
set_option maxRecDepth 20000 in
theorem ggX8_count_X6_failures : GoodIn wsX8_count wsX6_failures := goodIn_r _ [29, 30, 102, 103, 104, 105, 106] (by decide +kernel) (by decide +kernel)
set_option maxRecDepth 20000 in
theorem gX8_count_X6_failures : GoodIn wsX8_count (wsV RX8 171 RX6 yX6_failures wsX6_failures) := goodIn_app (goodIn_of _ (by decide +kernel)) ggX8_count_X6_failures
set_option maxRecDepth 20000 in
theorem ggX8_count_X8_countWithPower : GoodIn wsX8_count wsX8_countWithPower := goodIn_r _ [35, 2, 36, 37, 38, 39, 12, 40, 41, 42, 43, 44, 45, 46, 47, 48, 49, 14, 50, 51, 52, 53, 18, 54, 55, 56, 57, 58, 20, 59, 60, 61, 62, 63, 64, 65, 66, 67, 68, 69, 70, 71, 72, 73, 74, 75, 76, 77, 78, 79, 80, 81, 82, 83, 84, 85, 86, 87, 88, 89, 90, 91, 92, 93, 94, 95, 96, 97, 98, 99, 100, 101, 107, 108, 109, 110, 111, 112, 113, 114, 115, 116, 117, 118, 119, 120, 121, 122, 123, 124, 125, 126] (by decide +kernel) (by decide +kernel)
set_option maxRecDepth 20000 in
theorem gX8_count_X8_countWithPower : GoodIn wsX8_count (wsV RX8 174 RX8 yX8_countWithPower wsX8_countWithPower) := goodIn_app (goodIn_of _ (by decide +kernel)) ggX8_count_X8_countWithPower
theorem dX8_count_0 : decode cX8_count 0 = .ok (.iload_n 1, 1) := by decide +kernel
theorem dX8_count_1 : decode cX8_count 1 = .ok (.tableswitch 71 0 3 #[31, 47, 55, 63], 31) := by decide +kernel
theorem dX8_count_32 : decode cX8_count 32 = .ok (.aload_n 0, 1) := by decide +kernel
theorem dX8_count_33 : decode cX8_count 33 = .ok (.getfield 12, 3) := by decide +kernel
theorem dX8_count_36 : decode cX8_count 36 = .ok (.invokevirtual 83, 3) := by decide +kernel
theorem dX8_count_39 : decode cX8_count 39 = .ok (.ifCond .eq 7, 3) := by decide +kernel
theorem dX8_count_42 : decode cX8_count 42 = .ok (.iconst 1, 1) := by decide +kernel
theorem dX8_count_43 : decode cX8_count 43 = .ok (.goto 4, 3) := by decide +kernel
theorem dX8_count_46 : decode cX8_count 46 = .ok (.iconst 0, 1) := by decide +kernel
theorem dX8_count_47 : decode cX8_count 47 = .ok (.ireturn, 1) := by decide +kernel
theorem dX8_count_48 : decode cX8_count 48 = .ok (.aload_n 0, 1) := by decide +kernel
theorem dX8_count_49 : decode cX8_count 49 = .ok (.getfield 30, 3) := by decide +kernel
theorem dX8_count_52 : decode cX8_count 52 = .ok (.invokevirtual 165, 3) := by decide +kernel
theorem dX8_count_55 : decode cX8_count 55 = .ok (.ireturn, 1) := by decide +kernel
theorem dX8_count_56 : decode cX8_count 56 = .ok (.aload_n 0, 1) := by decide +kernel
theorem dX8_count_57 : decode cX8_count 57 = .ok (.getfield 12, 3) := by decide +kernel
theorem dX8_count_60 : decode cX8_count 60 = .ok (.invokevirtual 168, 3) := by decide +kernel
theorem dX8_count_63 : decode cX8_count 63 = .ok (.ireturn, 1) := by decide +kernel
theorem dX8_count_64 : decode cX8_count 64 = .ok (.aload_n 0, 1) := by decide +kernel
theorem dX8_count_65 : decode cX8_count 65 = .ok (.getfield 12, 3) := by decide +kernel
theorem dX8_count_68 : decode cX8_count 68 = .ok (.invokevirtual 171, 3) := by decide +kernel
theorem dX8_count_71 : decode cX8_count 71 = .ok (.ireturn, 1) := by decide +kernel
theorem dX8_count_72 : decode cX8_count 72 = .ok (.aload_n 0, 1) := by decide +kernel
theorem dX8_count_73 : decode cX8_count 73 = .ok (.getfield 12, 3) := by decide +kernel
theorem dX8_count_76 : decode cX8_count 76 = .ok (.invokevirtual 83, 3) := by decide +kernel
theorem dX8_count_79 : decode cX8_count 79 = .ok (.ifCond .eq 11, 3) := by decide +kernel
theorem dX8_count_82 : decode cX8_count 82 = .ok (.aload_n 0, 1) := by decide +kernel
theorem dX8_count_83 : decode cX8_count 83 = .ok (.iload_n 1, 1) := by decide +kernel
theorem dX8_count_84 : decode cX8_count 84 = .ok (.invokevirtual 174, 3) := by decide +kernel
theorem dX8_count_87 : decode cX8_count 87 = .ok (.goto 4, 3) := by decide +kernel
theorem dX8_count_90 : decode cX8_count 90 = .ok (.iconst (-1), 1) := by decide +kernel
theorem dX8_count_91 : decode cX8_count 91 = .ok (.ireturn, 1) := by decide +kernel
set_option maxRecDepth 20000 in
theorem ggX8_countWithPower_X3_bankInUse : GoodIn wsX8_countWithPower wsX3_bankInUse := goodIn_r _ [7, 8, 72, 73, 74, 75, 76, 77] (by decide +kernel) (by decide +kernel)
set_option maxRecDepth 20000 in
theorem gX8_countWithPower_X3_bankInUse : GoodIn wsX8_countWithPower (wsV RX8 177 RX3 yX3_bankInUse wsX3_bankInUse) := goodIn_app (goodIn_of _ (by decide +kernel)) ggX8_countWithPower_X3_bankInUse
set_option maxRecDepth 20000 in
theorem ggX8_countWithPower_X3_generation : GoodIn wsX8_countWithPower wsX3_generation := goodIn_r _ [12, 8, 13, 14, 15, 6, 16, 17, 18, 19, 20, 21, 22, 23, 24, 25, 26, 27, 28, 72, 73, 74, 75, 76, 77, 78] (by decide +kernel) (by decide +kernel)
set_option maxRecDepth 20000 in
theorem gX8_countWithPower_X3_generation : GoodIn wsX8_countWithPower (wsV RX8 180 RX3 yX3_generation wsX3_generation) := goodIn_app (goodIn_of _ (by decide +kernel)) ggX8_countWithPower_X3_generation
set_option maxRecDepth 20000 in
theorem ggX8_countWithPower_X3_end : GoodIn wsX8_countWithPower wsX3_end := goodIn_r _ [32, 33, 72, 73, 74, 75, 76, 77] (by decide +kernel) (by decide +kernel)
set_option maxRecDepth 20000 in
theorem gX8_countWithPower_X3_end : GoodIn wsX8_countWithPower (wsV RX8 183 RX3 yX3_end wsX3_end) := goodIn_app (goodIn_of _ (by decide +kernel)) ggX8_countWithPower_X3_end
set_option maxRecDepth 20000 in
theorem ggX8_countWithPower_X7_sampleCount : GoodIn wsX8_countWithPower wsX7_sampleCount := goodIn_r _ [38, 39, 79, 80, 81, 82, 83, 84, 85] (by decide +kernel) (by decide +kernel)
set_option maxRecDepth 20000 in
theorem gX8_countWithPower_X7_sampleCount : GoodIn wsX8_countWithPower (wsV RX8 64 RX7 yX7_sampleCount wsX7_sampleCount) := goodIn_app (goodIn_of _ (by decide +kernel)) ggX8_countWithPower_X7_sampleCount
set_option maxRecDepth 20000 in
theorem ggX8_countWithPower_X7_liveCount : GoodIn wsX8_countWithPower wsX7_liveCount := goodIn_r _ [43, 39, 44, 45, 46, 37, 47, 48, 49, 50, 51, 52, 53, 54, 55, 56, 79, 80, 81, 82, 83, 84, 85] (by decide +kernel) (by decide +kernel)
set_option maxRecDepth 20000 in
theorem gX8_countWithPower_X7_liveCount : GoodIn wsX8_countWithPower (wsV RX8 186 RX7 yX7_liveCount wsX7_liveCount) := goodIn_app (goodIn_of _ (by decide +kernel)) ggX8_countWithPower_X7_liveCount
set_option maxRecDepth 20000 in
theorem ggX8_countWithPower_X7_pastActs : GoodIn wsX8_countWithPower wsX7_pastActs := goodIn_r _ [60, 61, 62, 63, 64, 65, 66, 67, 79, 80, 81, 82, 83, 84, 85, 86, 87, 88, 89, 90, 91] (by decide +kernel) (by decide +kernel)
set_option maxRecDepth 20000 in
theorem gX8_countWithPower_X7_pastActs : GoodIn wsX8_countWithPower (wsV RX8 87 RX7 yX7_pastActs wsX7_pastActs) := goodIn_app (goodIn_of _ (by decide +kernel)) ggX8_countWithPower_X7_pastActs
theorem dX8_countWithPower_0 : decode cX8_countWithPower 0 = .ok (.iload_n 1, 1) := by decide +kernel
theorem dX8_countWithPower_1 : decode cX8_countWithPower 1 = .ok (.tableswitch 87 4 9 #[39, 47, 55, 63, 71, 79], 39) := by decide +kernel
theorem dX8_countWithPower_40 : decode cX8_countWithPower 40 = .ok (.aload_n 0, 1) := by decide +kernel
theorem dX8_countWithPower_41 : decode cX8_countWithPower 41 = .ok (.getfield 30, 3) := by decide +kernel
theorem dX8_countWithPower_44 : decode cX8_countWithPower 44 = .ok (.invokevirtual 177, 3) := by decide +kernel
theorem dX8_countWithPower_47 : decode cX8_countWithPower 47 = .ok (.ireturn, 1) := by decide +kernel
theorem dX8_countWithPower_48 : decode cX8_countWithPower 48 = .ok (.aload_n 0, 1) := by decide +kernel
theorem dX8_countWithPower_49 : decode cX8_countWithPower 49 = .ok (.getfield 30, 3) := by decide +kernel
theorem dX8_countWithPower_52 : decode cX8_countWithPower 52 = .ok (.invokevirtual 180, 3) := by decide +kernel
theorem dX8_countWithPower_55 : decode cX8_countWithPower 55 = .ok (.ireturn, 1) := by decide +kernel
theorem dX8_countWithPower_56 : decode cX8_countWithPower 56 = .ok (.aload_n 0, 1) := by decide +kernel
theorem dX8_countWithPower_57 : decode cX8_countWithPower 57 = .ok (.getfield 30, 3) := by decide +kernel
theorem dX8_countWithPower_60 : decode cX8_countWithPower 60 = .ok (.invokevirtual 183, 3) := by decide +kernel
theorem dX8_countWithPower_63 : decode cX8_countWithPower 63 = .ok (.ireturn, 1) := by decide +kernel
theorem dX8_countWithPower_64 : decode cX8_countWithPower 64 = .ok (.aload_n 0, 1) := by decide +kernel
theorem dX8_countWithPower_65 : decode cX8_countWithPower 65 = .ok (.getfield 37, 3) := by decide +kernel
theorem dX8_countWithPower_68 : decode cX8_countWithPower 68 = .ok (.invokevirtual 64, 3) := by decide +kernel
theorem dX8_countWithPower_71 : decode cX8_countWithPower 71 = .ok (.ireturn, 1) := by decide +kernel
theorem dX8_countWithPower_72 : decode cX8_countWithPower 72 = .ok (.aload_n 0, 1) := by decide +kernel
theorem dX8_countWithPower_73 : decode cX8_countWithPower 73 = .ok (.getfield 37, 3) := by decide +kernel
theorem dX8_countWithPower_76 : decode cX8_countWithPower 76 = .ok (.invokevirtual 186, 3) := by decide +kernel
theorem dX8_countWithPower_79 : decode cX8_countWithPower 79 = .ok (.ireturn, 1) := by decide +kernel
theorem dX8_countWithPower_80 : decode cX8_countWithPower 80 = .ok (.aload_n 0, 1) := by decide +kernel
theorem dX8_countWithPower_81 : decode cX8_countWithPower 81 = .ok (.getfield 37, 3) := by decide +kernel
theorem dX8_countWithPower_84 : decode cX8_countWithPower 84 = .ok (.invokevirtual 87, 3) := by decide +kernel
theorem dX8_countWithPower_87 : decode cX8_countWithPower 87 = .ok (.ireturn, 1) := by decide +kernel
theorem dX8_countWithPower_88 : decode cX8_countWithPower 88 = .ok (.iconst (-1), 1) := by decide +kernel
theorem dX8_countWithPower_89 : decode cX8_countWithPower 89 = .ok (.ireturn, 1) := by decide +kernel
set_option maxRecDepth 20000 in
theorem ggX8_refusalOfNewSample_X8_refusalOfWell : GoodIn wsX8_refusalOfNewSample wsX8_refusalOfWell := goodIn_r _ [7, 8, 1, 2, 9, 10, 11, 12, 13, 14, 15, 16, 6, 17, 18, 19, 20, 21, 22, 23, 24, 25, 26, 27, 28, 29, 30, 31, 32, 77, 78, 79, 80, 81, 82, 83, 84, 85, 86, 87, 88, 89, 90, 91, 92, 93, 94, 95, 96] (by decide +kernel) (by decide +kernel)
set_option maxRecDepth 20000 in
theorem gX8_refusalOfNewSample_X8_refusalOfWell : GoodIn wsX8_refusalOfNewSample (wsV RX8 76 RX8 yX8_refusalOfWell wsX8_refusalOfWell) := goodIn_app (goodIn_of _ (by decide +kernel)) ggX8_refusalOfNewSample_X8_refusalOfWell
set_option maxRecDepth 20000 in
theorem ggX8_refusalOfNewSample_X7_isFull : GoodIn wsX8_refusalOfNewSample wsX7_isFull := goodIn_r _ [36, 23, 90, 91, 92, 93, 94, 95, 96] (by decide +kernel) (by decide +kernel)
set_option maxRecDepth 20000 in
theorem gX8_refusalOfNewSample_X7_isFull : GoodIn wsX8_refusalOfNewSample (wsV RX8 193 RX7 yX7_isFull wsX7_isFull) := goodIn_app (goodIn_of _ (by decide +kernel)) ggX8_refusalOfNewSample_X7_isFull
set_option maxRecDepth 20000 in
theorem ggX8_refusalOfNewSample_X8_refusalOfRoom : GoodIn wsX8_refusalOfNewSample wsX8_refusalOfRoom := goodIn_r _ [40, 41, 1, 42, 43, 44, 45, 46, 47, 48, 49, 50, 51, 52, 53, 54, 55, 56, 57, 58, 59, 60, 61, 62, 63, 64, 65, 66, 67, 68, 69, 70, 71, 72, 73, 74, 75, 76, 77, 78, 79, 80, 97, 98, 99, 100, 101, 102, 81, 82, 83, 84, 103] (by decide +kernel) (by decide +kernel)
set_option maxRecDepth 20000 in
theorem gX8_refusalOfNewSample_X8_refusalOfRoom : GoodIn wsX8_refusalOfNewSample (wsV RX8 80 RX8 yX8_refusalOfRoom wsX8_refusalOfRoom) := goodIn_app (goodIn_of _ (by decide +kernel)) ggX8_refusalOfNewSample_X8_refusalOfRoom
theorem dX8_refusalOfNewSample_0 : decode cX8_refusalOfNewSample 0 = .ok (.aload_n 0, 1) := by decide +kernel
theorem dX8_refusalOfNewSample_1 : decode cX8_refusalOfNewSample 1 = .ok (.iload_n 1, 1) := by decide +kernel
theorem dX8_refusalOfNewSample_2 : decode cX8_refusalOfNewSample 2 = .ok (.invokevirtual 76, 3) := by decide +kernel
theorem dX8_refusalOfNewSample_5 : decode cX8_refusalOfNewSample 5 = .ok (.istore 4, 2) := by decide +kernel
theorem dX8_refusalOfNewSample_7 : decode cX8_refusalOfNewSample 7 = .ok (.iload 4, 2) := by decide +kernel
theorem dX8_refusalOfNewSample_9 : decode cX8_refusalOfNewSample 9 = .ok (.ifCond .eq 6, 3) := by decide +kernel
theorem dX8_refusalOfNewSample_12 : decode cX8_refusalOfNewSample 12 = .ok (.iload 4, 2) := by decide +kernel
theorem dX8_refusalOfNewSample_14 : decode cX8_refusalOfNewSample 14 = .ok (.ireturn, 1) := by decide +kernel
theorem dX8_refusalOfNewSample_15 : decode cX8_refusalOfNewSample 15 = .ok (.aload_n 0, 1) := by decide +kernel
theorem dX8_refusalOfNewSample_16 : decode cX8_refusalOfNewSample 16 = .ok (.getfield 44, 3) := by decide +kernel
theorem dX8_refusalOfNewSample_19 : decode cX8_refusalOfNewSample 19 = .ok (.getfield 189, 3) := by decide +kernel
theorem dX8_refusalOfNewSample_22 : decode cX8_refusalOfNewSample 22 = .ok (.lconst 1, 1) := by decide +kernel
theorem dX8_refusalOfNewSample_23 : decode cX8_refusalOfNewSample 23 = .ok (.lcmp, 1) := by decide +kernel
theorem dX8_refusalOfNewSample_24 : decode cX8_refusalOfNewSample 24 = .ok (.ifCond .lt 15, 3) := by decide +kernel
theorem dX8_refusalOfNewSample_27 : decode cX8_refusalOfNewSample 27 = .ok (.aload_n 0, 1) := by decide +kernel
theorem dX8_refusalOfNewSample_28 : decode cX8_refusalOfNewSample 28 = .ok (.getfield 44, 3) := by decide +kernel
theorem dX8_refusalOfNewSample_31 : decode cX8_refusalOfNewSample 31 = .ok (.getfield 189, 3) := by decide +kernel
theorem dX8_refusalOfNewSample_34 : decode cX8_refusalOfNewSample 34 = .ok (.lload_n 2, 1) := by decide +kernel
theorem dX8_refusalOfNewSample_35 : decode cX8_refusalOfNewSample 35 = .ok (.lcmp, 1) := by decide +kernel
theorem dX8_refusalOfNewSample_36 : decode cX8_refusalOfNewSample 36 = .ok (.ifCond .le 6, 3) := by decide +kernel
theorem dX8_refusalOfNewSample_39 : decode cX8_refusalOfNewSample 39 = .ok (.bipush (-4), 2) := by decide +kernel
theorem dX8_refusalOfNewSample_41 : decode cX8_refusalOfNewSample 41 = .ok (.ireturn, 1) := by decide +kernel
theorem dX8_refusalOfNewSample_42 : decode cX8_refusalOfNewSample 42 = .ok (.aload_n 0, 1) := by decide +kernel
theorem dX8_refusalOfNewSample_43 : decode cX8_refusalOfNewSample 43 = .ok (.getfield 37, 3) := by decide +kernel
theorem dX8_refusalOfNewSample_46 : decode cX8_refusalOfNewSample 46 = .ok (.invokevirtual 193, 3) := by decide +kernel
theorem dX8_refusalOfNewSample_49 : decode cX8_refusalOfNewSample 49 = .ok (.ifCond .eq 6, 3) := by decide +kernel
theorem dX8_refusalOfNewSample_52 : decode cX8_refusalOfNewSample 52 = .ok (.bipush (-5), 2) := by decide +kernel
theorem dX8_refusalOfNewSample_54 : decode cX8_refusalOfNewSample 54 = .ok (.ireturn, 1) := by decide +kernel
theorem dX8_refusalOfNewSample_55 : decode cX8_refusalOfNewSample 55 = .ok (.aload_n 0, 1) := by decide +kernel
theorem dX8_refusalOfNewSample_56 : decode cX8_refusalOfNewSample 56 = .ok (.invokevirtual 80, 3) := by decide +kernel
theorem dX8_refusalOfNewSample_59 : decode cX8_refusalOfNewSample 59 = .ok (.ireturn, 1) := by decide +kernel
set_option maxRecDepth 20000 in
theorem ggX8_refusalOfWell_X6_isUp : GoodIn wsX8_refusalOfWell wsX6_isUp := goodIn_r _ [8, 9, 37, 38, 39, 40, 41] (by decide +kernel) (by decide +kernel)
set_option maxRecDepth 20000 in
theorem gX8_refusalOfWell_X6_isUp : GoodIn wsX8_refusalOfWell (wsV RX8 83 RX6 yX6_isUp wsX6_isUp) := goodIn_app (goodIn_of _ (by decide +kernel)) ggX8_refusalOfWell_X6_isUp
set_option maxRecDepth 20000 in
theorem ggX8_refusalOfWell_X8_isWell : GoodIn wsX8_refusalOfWell wsX8_isWell := goodIn_r _ [13] (by decide +kernel) (by decide +kernel)
set_option maxRecDepth 20000 in
theorem gX8_refusalOfWell_X8_isWell : GoodIn wsX8_refusalOfWell (va_wsS RX8 200 yX8_isWell wsX8_isWell) := goodIn_app (goodIn_of _ (by decide +kernel)) ggX8_refusalOfWell_X8_isWell
set_option maxRecDepth 20000 in
theorem ggX8_refusalOfWell_X7_sampleIn : GoodIn wsX8_refusalOfWell wsX7_sampleIn := goodIn_r _ [18, 19, 11, 12, 13, 20, 21, 22, 17, 23, 24, 25, 26, 27, 28, 42, 43, 44, 45, 46, 47, 48] (by decide +kernel) (by decide +kernel)
set_option maxRecDepth 20000 in
theorem gX8_refusalOfWell_X7_sampleIn : GoodIn wsX8_refusalOfWell (wsV RX8 153 RX7 yX7_sampleIn wsX7_sampleIn) := goodIn_app (goodIn_of _ (by decide +kernel)) ggX8_refusalOfWell_X7_sampleIn
theorem dX8_refusalOfWell_0 : decode cX8_refusalOfWell 0 = .ok (.aload_n 0, 1) := by decide +kernel
theorem dX8_refusalOfWell_1 : decode cX8_refusalOfWell 1 = .ok (.getfield 12, 3) := by decide +kernel
theorem dX8_refusalOfWell_4 : decode cX8_refusalOfWell 4 = .ok (.invokevirtual 83, 3) := by decide +kernel
theorem dX8_refusalOfWell_7 : decode cX8_refusalOfWell 7 = .ok (.ifCond .ne 5, 3) := by decide +kernel
theorem dX8_refusalOfWell_10 : decode cX8_refusalOfWell 10 = .ok (.iconst (-1), 1) := by decide +kernel
theorem dX8_refusalOfWell_11 : decode cX8_refusalOfWell 11 = .ok (.ireturn, 1) := by decide +kernel
theorem dX8_refusalOfWell_12 : decode cX8_refusalOfWell 12 = .ok (.iload_n 1, 1) := by decide +kernel
theorem dX8_refusalOfWell_13 : decode cX8_refusalOfWell 13 = .ok (.ifCond .eq 16, 3) := by decide +kernel
theorem dX8_refusalOfWell_16 : decode cX8_refusalOfWell 16 = .ok (.aload_n 0, 1) := by decide +kernel
theorem dX8_refusalOfWell_17 : decode cX8_refusalOfWell 17 = .ok (.getfield 44, 3) := by decide +kernel
theorem dX8_refusalOfWell_20 : decode cX8_refusalOfWell 20 = .ok (.getfield 196, 3) := by decide +kernel
theorem dX8_refusalOfWell_23 : decode cX8_refusalOfWell 23 = .ok (.invokestatic 200, 3) := by decide +kernel
theorem dX8_refusalOfWell_26 : decode cX8_refusalOfWell 26 = .ok (.ifCond .ne 6, 3) := by decide +kernel
theorem dX8_refusalOfWell_29 : decode cX8_refusalOfWell 29 = .ok (.bipush (-2), 2) := by decide +kernel
theorem dX8_refusalOfWell_31 : decode cX8_refusalOfWell 31 = .ok (.ireturn, 1) := by decide +kernel
theorem dX8_refusalOfWell_32 : decode cX8_refusalOfWell 32 = .ok (.aload_n 0, 1) := by decide +kernel
theorem dX8_refusalOfWell_33 : decode cX8_refusalOfWell 33 = .ok (.getfield 37, 3) := by decide +kernel
theorem dX8_refusalOfWell_36 : decode cX8_refusalOfWell 36 = .ok (.aload_n 0, 1) := by decide +kernel
theorem dX8_refusalOfWell_37 : decode cX8_refusalOfWell 37 = .ok (.getfield 44, 3) := by decide +kernel
theorem dX8_refusalOfWell_40 : decode cX8_refusalOfWell 40 = .ok (.getfield 196, 3) := by decide +kernel
theorem dX8_refusalOfWell_43 : decode cX8_refusalOfWell 43 = .ok (.invokevirtual 153, 3) := by decide +kernel
theorem dX8_refusalOfWell_46 : decode cX8_refusalOfWell 46 = .ok (.iconst (-1), 1) := by decide +kernel
theorem dX8_refusalOfWell_47 : decode cX8_refusalOfWell 47 = .ok (.if_icmp .eq 8, 3) := by decide +kernel
theorem dX8_refusalOfWell_50 : decode cX8_refusalOfWell 50 = .ok (.bipush (-3), 2) := by decide +kernel
theorem dX8_refusalOfWell_52 : decode cX8_refusalOfWell 52 = .ok (.goto 4, 3) := by decide +kernel
theorem dX8_refusalOfWell_55 : decode cX8_refusalOfWell 55 = .ok (.iconst 0, 1) := by decide +kernel
theorem dX8_refusalOfWell_56 : decode cX8_refusalOfWell 56 = .ok (.ireturn, 1) := by decide +kernel
set_option maxRecDepth 20000 in
theorem ggX8_refusalOfRoom_X3_hasRoomFor : GoodIn wsX8_refusalOfRoom wsX3_hasRoomFor := goodIn_r _ [7, 8, 9, 10, 11, 12, 13, 14, 15, 16, 17, 18, 19, 20, 21, 22, 23, 24, 25, 26, 27, 28, 29, 6, 30, 31, 32, 33, 34, 35, 36, 37, 42, 43, 44, 45, 46, 47, 48, 49, 50, 51, 52] (by decide +kernel) (by decide +kernel)
set_option maxRecDepth 20000 in
theorem gX8_refusalOfRoom_X3_hasRoomFor : GoodIn wsX8_refusalOfRoom (wsV RX8 203 RX3 yX3_hasRoomFor wsX3_hasRoomFor) := goodIn_app (goodIn_of _ (by decide +kernel)) ggX8_refusalOfRoom_X3_hasRoomFor
theorem dX8_refusalOfRoom_0 : decode cX8_refusalOfRoom 0 = .ok (.aload_n 0, 1) := by decide +kernel
theorem dX8_refusalOfRoom_1 : decode cX8_refusalOfRoom 1 = .ok (.getfield 30, 3) := by decide +kernel
theorem dX8_refusalOfRoom_4 : decode cX8_refusalOfRoom 4 = .ok (.aload_n 0, 1) := by decide +kernel
theorem dX8_refusalOfRoom_5 : decode cX8_refusalOfRoom 5 = .ok (.getfield 44, 3) := by decide +kernel
theorem dX8_refusalOfRoom_8 : decode cX8_refusalOfRoom 8 = .ok (.invokevirtual 203, 3) := by decide +kernel
theorem dX8_refusalOfRoom_11 : decode cX8_refusalOfRoom 11 = .ok (.ifCond .eq 7, 3) := by decide +kernel
theorem dX8_refusalOfRoom_14 : decode cX8_refusalOfRoom 14 = .ok (.iconst 0, 1) := by decide +kernel
theorem dX8_refusalOfRoom_15 : decode cX8_refusalOfRoom 15 = .ok (.goto 5, 3) := by decide +kernel
theorem dX8_refusalOfRoom_18 : decode cX8_refusalOfRoom 18 = .ok (.bipush (-6), 2) := by decide +kernel
theorem dX8_refusalOfRoom_20 : decode cX8_refusalOfRoom 20 = .ok (.ireturn, 1) := by decide +kernel
set_option maxRecDepth 20000 in
theorem ggX8_carryOut_X3_append : GoodIn wsX8_carryOut wsX3_append := goodIn_r _ [8, 9, 10, 11, 12, 13, 14, 15, 7, 16, 17, 18, 19, 20, 21, 22, 23, 24, 25, 26, 27, 28, 29, 30, 31, 32, 33, 34, 35, 36, 37, 38, 39, 40, 41, 42, 43, 44, 45, 46, 47, 48, 49, 50, 51, 52, 53, 54, 55, 56, 57, 58, 59, 60, 61, 62, 63, 64, 65, 66, 67, 68, 69, 70, 71, 72, 73, 74, 75, 76, 77, 78, 79, 80, 81, 82, 83, 84, 85, 86, 87, 88, 89, 90, 91, 92, 192, 193, 194, 195, 196, 197, 198, 199, 200, 201, 202, 203, 204, 205, 206, 207, 208, 209, 210, 211] (by decide +kernel) (by decide +kernel)
set_option maxRecDepth 20000 in
theorem gX8_carryOut_X3_append : GoodIn wsX8_carryOut (wsV RX8 206 RX3 yX3_append wsX3_append) := goodIn_app (goodIn_of _ (by decide +kernel)) ggX8_carryOut_X3_append
set_option maxRecDepth 20000 in
theorem ggX8_carryOut_X7_apply : GoodIn wsX8_carryOut wsX7_apply := goodIn_r _ [97, 98, 99, 100, 101, 96, 102, 103, 104, 105, 106, 107, 108, 109, 110, 111, 112, 113, 114, 115, 116, 117, 118, 119, 120, 121, 122, 123, 124, 125, 126, 127, 128, 129, 130, 131, 132, 133, 134, 135, 136, 137, 138, 139, 140, 141, 142, 143, 144, 145, 146, 147, 148, 149, 150, 151, 152, 153, 154, 155, 156, 157, 158, 159, 160, 161, 162, 163, 164, 165, 166, 167, 168, 169, 170, 171, 172, 173, 174, 175, 176, 177, 178, 179, 180, 181, 182, 183, 184, 185, 186, 187, 202, 203, 204, 205, 212, 213, 214, 215, 216, 217, 218, 219, 220, 221, 222, 223, 224] (by decide +kernel) (by decide +kernel)
set_option maxRecDepth 20000 in
theorem gX8_carryOut_X7_apply : GoodIn wsX8_carryOut (wsV RX8 117 RX7 yX7_apply wsX7_apply) := goodIn_app (goodIn_of _ (by decide +kernel)) ggX8_carryOut_X7_apply
theorem dX8_carryOut_0 : decode cX8_carryOut 0 = .ok (.iload_n 1, 1) := by decide +kernel
theorem dX8_carryOut_1 : decode cX8_carryOut 1 = .ok (.ifCond .eq 5, 3) := by decide +kernel
theorem dX8_carryOut_4 : decode cX8_carryOut 4 = .ok (.iload_n 1, 1) := by decide +kernel
theorem dX8_carryOut_5 : decode cX8_carryOut 5 = .ok (.ireturn, 1) := by decide +kernel
theorem dX8_carryOut_6 : decode cX8_carryOut 6 = .ok (.aload_n 0, 1) := by decide +kernel
theorem dX8_carryOut_7 : decode cX8_carryOut 7 = .ok (.getfield 30, 3) := by decide +kernel
theorem dX8_carryOut_10 : decode cX8_carryOut 10 = .ok (.aload_n 0, 1) := by decide +kernel
theorem dX8_carryOut_11 : decode cX8_carryOut 11 = .ok (.getfield 44, 3) := by decide +kernel
theorem dX8_carryOut_14 : decode cX8_carryOut 14 = .ok (.invokevirtual 206, 3) := by decide +kernel
theorem dX8_carryOut_17 : decode cX8_carryOut 17 = .ok (.ifCond .ne 5, 3) := by decide +kernel
theorem dX8_carryOut_20 : decode cX8_carryOut 20 = .ok (.iconst (-1), 1) := by decide +kernel
theorem dX8_carryOut_21 : decode cX8_carryOut 21 = .ok (.ireturn, 1) := by decide +kernel
theorem dX8_carryOut_22 : decode cX8_carryOut 22 = .ok (.aload_n 0, 1) := by decide +kernel
theorem dX8_carryOut_23 : decode cX8_carryOut 23 = .ok (.getfield 37, 3) := by decide +kernel
theorem dX8_carryOut_26 : decode cX8_carryOut 26 = .ok (.aload_n 0, 1) := by decide +kernel
theorem dX8_carryOut_27 : decode cX8_carryOut 27 = .ok (.getfield 44, 3) := by decide +kernel
theorem dX8_carryOut_30 : decode cX8_carryOut 30 = .ok (.invokevirtual 117, 3) := by decide +kernel
theorem dX8_carryOut_33 : decode cX8_carryOut 33 = .ok (.iconst 0, 1) := by decide +kernel
theorem dX8_carryOut_34 : decode cX8_carryOut 34 = .ok (.ireturn, 1) := by decide +kernel
theorem dX8_isWell_0 : decode cX8_isWell 0 = .ok (.iload_n 0, 1) := by decide +kernel
theorem dX8_isWell_1 : decode cX8_isWell 1 = .ok (.ifCond .lt 13, 3) := by decide +kernel
theorem dX8_isWell_4 : decode cX8_isWell 4 = .ok (.iload_n 0, 1) := by decide +kernel
theorem dX8_isWell_5 : decode cX8_isWell 5 = .ok (.bipush 48, 2) := by decide +kernel
theorem dX8_isWell_7 : decode cX8_isWell 7 = .ok (.if_icmp .ge 7, 3) := by decide +kernel
theorem dX8_isWell_10 : decode cX8_isWell 10 = .ok (.iconst 1, 1) := by decide +kernel
theorem dX8_isWell_11 : decode cX8_isWell 11 = .ok (.goto 4, 3) := by decide +kernel
theorem dX8_isWell_14 : decode cX8_isWell 14 = .ok (.iconst 0, 1) := by decide +kernel
theorem dX8_isWell_15 : decode cX8_isWell 15 = .ok (.ireturn, 1) := by decide +kernel
set_option maxRecDepth 20000 in
theorem ggX9_init_X9_u4 : GoodIn wsX9_init wsX9_u4 := goodIn_r _ [23, 24, 25, 26, 22, 27, 28, 29, 30, 31, 13, 18, 61, 62, 63, 64, 65, 66, 67, 68, 69, 70, 71, 72, 73, 74, 75, 76, 77, 78, 79, 80] (by decide +kernel) (by decide +kernel)
set_option maxRecDepth 20000 in
theorem gX9_init_X9_u4 : GoodIn wsX9_init (wsV RX9 46 RX9 yX9_u4 wsX9_u4) := goodIn_app (goodIn_of _ (by decide +kernel)) ggX9_init_X9_u4
set_option maxRecDepth 20000 in
theorem ggX9_init_X9_crc : GoodIn wsX9_init wsX9_crc := goodIn_r _ [34, 35] (by decide +kernel) (by decide +kernel)
set_option maxRecDepth 20000 in
theorem gX9_init_X9_crc : GoodIn wsX9_init (va_wsS RX9 50 yX9_crc wsX9_crc) := goodIn_app (goodIn_of _ (by decide +kernel)) ggX9_init_X9_crc
set_option maxRecDepth 20000 in
theorem ggX9_init_X9_u1 : GoodIn wsX9_init wsX9_u1 := goodIn_r _ [31, 13, 18, 61, 62, 63, 64, 65, 66, 67, 68, 69, 70, 71, 72, 73, 74, 75, 76, 77, 78, 79, 80] (by decide +kernel) (by decide +kernel)
set_option maxRecDepth 20000 in
theorem gX9_init_X9_u1 : GoodIn wsX9_init (wsV RX9 54 RX9 yX9_u1 wsX9_u1) := goodIn_app (goodIn_of _ (by decide +kernel)) ggX9_init_X9_u1
set_option maxRecDepth 20000 in
theorem ggX9_init_X9_reads : GoodIn wsX9_init wsX9_reads := goodIn_r _ [39, 17, 40, 41, 42, 14, 43, 44, 45, 46, 47, 48, 22, 49, 15, 50, 51, 52, 32, 33, 34, 35, 53, 54, 55, 56, 11, 7, 9, 57, 58, 59, 60, 6, 61, 62, 63, 64, 65, 66, 67, 68, 69, 70, 71, 72, 73, 74, 75, 76, 77, 78, 79, 80] (by decide +kernel) (by decide +kernel)
set_option maxRecDepth 20000 in
theorem gX9_init_X9_reads : GoodIn wsX9_init (wsV RX9 57 RX9 yX9_reads wsX9_reads) := goodIn_app (goodIn_of _ (by decide +kernel)) ggX9_init_X9_reads
theorem dX9_init_0 : decode cX9_init 0 = .ok (.aload_n 0, 1) := by decide +kernel
theorem dX9_init_1 : decode cX9_init 1 = .ok (.invokespecial 1, 3) := by decide +kernel
theorem dX9_init_4 : decode cX9_init 4 = .ok (.aload_n 0, 1) := by decide +kernel
theorem dX9_init_5 : decode cX9_init 5 = .ok (.iconst (-1), 1) := by decide +kernel
theorem dX9_init_6 : decode cX9_init 6 = .ok (.putfield 9, 3) := by decide +kernel
theorem dX9_init_9 : decode cX9_init 9 = .ok (.aload_n 0, 1) := by decide +kernel
theorem dX9_init_10 : decode cX9_init 10 = .ok (.bipush 121, 2) := by decide +kernel
theorem dX9_init_12 : decode cX9_init 12 = .ok (.newarray .int, 2) := by decide +kernel
theorem dX9_init_14 : decode cX9_init 14 = .ok (.putfield 13, 3) := by decide +kernel
theorem dX9_init_17 : decode cX9_init 17 = .ok (.aload_n 0, 1) := by decide +kernel
theorem dX9_init_18 : decode cX9_init 18 = .ok (.bipush 121, 2) := by decide +kernel
theorem dX9_init_20 : decode cX9_init 20 = .ok (.newarray .int, 2) := by decide +kernel
theorem dX9_init_22 : decode cX9_init 22 = .ok (.putfield 17, 3) := by decide +kernel
theorem dX9_init_25 : decode cX9_init 25 = .ok (.aload_n 0, 1) := by decide +kernel
theorem dX9_init_26 : decode cX9_init 26 = .ok (.bipush 121, 2) := by decide +kernel
theorem dX9_init_28 : decode cX9_init 28 = .ok (.newarray .boolean, 2) := by decide +kernel
theorem dX9_init_30 : decode cX9_init 30 = .ok (.putfield 20, 3) := by decide +kernel
theorem dX9_init_33 : decode cX9_init 33 = .ok (.aload_n 0, 1) := by decide +kernel
theorem dX9_init_34 : decode cX9_init 34 = .ok (.bipush 121, 2) := by decide +kernel
theorem dX9_init_36 : decode cX9_init 36 = .ok (.newarray .long, 2) := by decide +kernel
theorem dX9_init_38 : decode cX9_init 38 = .ok (.putfield 24, 3) := by decide +kernel
theorem dX9_init_41 : decode cX9_init 41 = .ok (.aload_n 0, 1) := by decide +kernel
theorem dX9_init_42 : decode cX9_init 42 = .ok (.bipush 32, 2) := by decide +kernel
theorem dX9_init_44 : decode cX9_init 44 = .ok (.newarray .byte, 2) := by decide +kernel
theorem dX9_init_46 : decode cX9_init 46 = .ok (.putfield 28, 3) := by decide +kernel
theorem dX9_init_49 : decode cX9_init 49 = .ok (.aload_n 0, 1) := by decide +kernel
theorem dX9_init_50 : decode cX9_init 50 = .ok (.sipush 260, 3) := by decide +kernel
theorem dX9_init_53 : decode cX9_init 53 = .ok (.newarray .int, 2) := by decide +kernel
theorem dX9_init_55 : decode cX9_init 55 = .ok (.putfield 32, 3) := by decide +kernel
theorem dX9_init_58 : decode cX9_init 58 = .ok (.aload_n 0, 1) := by decide +kernel
theorem dX9_init_59 : decode cX9_init 59 = .ok (.iload_n 1, 1) := by decide +kernel
theorem dX9_init_60 : decode cX9_init 60 = .ok (.bipush 64, 2) := by decide +kernel
theorem dX9_init_62 : decode cX9_init 62 = .ok (.if_icmp .ge 8, 3) := by decide +kernel
theorem dX9_init_65 : decode cX9_init 65 = .ok (.bipush 64, 2) := by decide +kernel
theorem dX9_init_67 : decode cX9_init 67 = .ok (.goto 17, 3) := by decide +kernel
theorem dX9_init_70 : decode cX9_init 70 = .ok (.iload_n 1, 1) := by decide +kernel
theorem dX9_init_71 : decode cX9_init 71 = .ok (.sipush 2048, 3) := by decide +kernel
theorem dX9_init_74 : decode cX9_init 74 = .ok (.if_icmp .le 9, 3) := by decide +kernel
theorem dX9_init_77 : decode cX9_init 77 = .ok (.sipush 2048, 3) := by decide +kernel
theorem dX9_init_80 : decode cX9_init 80 = .ok (.goto 4, 3) := by decide +kernel
theorem dX9_init_83 : decode cX9_init 83 = .ok (.iload_n 1, 1) := by decide +kernel
theorem dX9_init_84 : decode cX9_init 84 = .ok (.putfield 35, 3) := by decide +kernel
theorem dX9_init_87 : decode cX9_init 87 = .ok (.aload_n 0, 1) := by decide +kernel
theorem dX9_init_88 : decode cX9_init 88 = .ok (.iconst 2, 1) := by decide +kernel
theorem dX9_init_89 : decode cX9_init 89 = .ok (.aload_n 0, 1) := by decide +kernel
theorem dX9_init_90 : decode cX9_init 90 = .ok (.getfield 35, 3) := by decide +kernel
theorem dX9_init_93 : decode cX9_init 93 = .ok (.multianewarray 38 2, 4) := by decide +kernel
theorem dX9_init_97 : decode cX9_init 97 = .ok (.putfield 40, 3) := by decide +kernel
theorem dX9_init_100 : decode cX9_init 100 = .ok (.aload_n 0, 1) := by decide +kernel
theorem dX9_init_101 : decode cX9_init 101 = .ok (.iconst 0, 1) := by decide +kernel
theorem dX9_init_102 : decode cX9_init 102 = .ok (.putfield 43, 3) := by decide +kernel
theorem dX9_init_105 : decode cX9_init 105 = .ok (.aload_n 0, 1) := by decide +kernel
theorem dX9_init_106 : decode cX9_init 106 = .ok (.iconst 1, 1) := by decide +kernel
theorem dX9_init_107 : decode cX9_init 107 = .ok (.invokevirtual 46, 3) := by decide +kernel
theorem dX9_init_110 : decode cX9_init 110 = .ok (.aload_n 0, 1) := by decide +kernel
theorem dX9_init_111 : decode cX9_init 111 = .ok (.aload_n 0, 1) := by decide +kernel
theorem dX9_init_112 : decode cX9_init 112 = .ok (.getfield 28, 3) := by decide +kernel
theorem dX9_init_115 : decode cX9_init 115 = .ok (.iconst 0, 1) := by decide +kernel
theorem dX9_init_116 : decode cX9_init 116 = .ok (.iconst 4, 1) := by decide +kernel
theorem dX9_init_117 : decode cX9_init 117 = .ok (.invokestatic 50, 3) := by decide +kernel
theorem dX9_init_120 : decode cX9_init 120 = .ok (.invokevirtual 46, 3) := by decide +kernel
theorem dX9_init_123 : decode cX9_init 123 = .ok (.aload_n 0, 1) := by decide +kernel
theorem dX9_init_124 : decode cX9_init 124 = .ok (.sipush 165, 3) := by decide +kernel
theorem dX9_init_127 : decode cX9_init 127 = .ok (.invokevirtual 54, 3) := by decide +kernel
theorem dX9_init_130 : decode cX9_init 130 = .ok (.iconst 0, 1) := by decide +kernel
theorem dX9_init_131 : decode cX9_init 131 = .ok (.istore_n 2, 1) := by decide +kernel
theorem dX9_init_132 : decode cX9_init 132 = .ok (.iload_n 2, 1) := by decide +kernel
theorem dX9_init_133 : decode cX9_init 133 = .ok (.aload_n 0, 1) := by decide +kernel
theorem dX9_init_134 : decode cX9_init 134 = .ok (.getfield 43, 3) := by decide +kernel
theorem dX9_init_137 : decode cX9_init 137 = .ok (.if_icmp .ge 23, 3) := by decide +kernel
theorem dX9_init_140 : decode cX9_init 140 = .ok (.aload_n 0, 1) := by decide +kernel
theorem dX9_init_141 : decode cX9_init 141 = .ok (.getfield 40, 3) := by decide +kernel
theorem dX9_init_144 : decode cX9_init 144 = .ok (.iconst 0, 1) := by decide +kernel
theorem dX9_init_145 : decode cX9_init 145 = .ok (.aaload, 1) := by decide +kernel
theorem dX9_init_146 : decode cX9_init 146 = .ok (.iload_n 2, 1) := by decide +kernel
theorem dX9_init_147 : decode cX9_init 147 = .ok (.aload_n 0, 1) := by decide +kernel
theorem dX9_init_148 : decode cX9_init 148 = .ok (.getfield 28, 3) := by decide +kernel
theorem dX9_init_151 : decode cX9_init 151 = .ok (.iload_n 2, 1) := by decide +kernel
theorem dX9_init_152 : decode cX9_init 152 = .ok (.baload, 1) := by decide +kernel
theorem dX9_init_153 : decode cX9_init 153 = .ok (.bastore, 1) := by decide +kernel
theorem dX9_init_154 : decode cX9_init 154 = .ok (.iinc 2 1, 3) := by decide +kernel
theorem dX9_init_157 : decode cX9_init 157 = .ok (.goto (-25), 3) := by decide +kernel
theorem dX9_init_160 : decode cX9_init 160 = .ok (.aload_n 0, 1) := by decide +kernel
theorem dX9_init_161 : decode cX9_init 161 = .ok (.invokevirtual 57, 3) := by decide +kernel
theorem dX9_init_164 : decode cX9_init 164 = .ok (.return_, 1) := by decide +kernel
theorem dX9_u1_0 : decode cX9_u1 0 = .ok (.aload_n 0, 1) := by decide +kernel
theorem dX9_u1_1 : decode cX9_u1 1 = .ok (.getfield 28, 3) := by decide +kernel
theorem dX9_u1_4 : decode cX9_u1 4 = .ok (.aload_n 0, 1) := by decide +kernel
theorem dX9_u1_5 : decode cX9_u1 5 = .ok (.getfield 43, 3) := by decide +kernel
theorem dX9_u1_8 : decode cX9_u1 8 = .ok (.iload_n 1, 1) := by decide +kernel
theorem dX9_u1_9 : decode cX9_u1 9 = .ok (.i2b, 1) := by decide +kernel
theorem dX9_u1_10 : decode cX9_u1 10 = .ok (.bastore, 1) := by decide +kernel
theorem dX9_u1_11 : decode cX9_u1 11 = .ok (.aload_n 0, 1) := by decide +kernel
theorem dX9_u1_12 : decode cX9_u1 12 = .ok (.dup, 1) := by decide +kernel
theorem dX9_u1_13 : decode cX9_u1 13 = .ok (.getfield 43, 3) := by decide +kernel
theorem dX9_u1_16 : decode cX9_u1 16 = .ok (.iconst 1, 1) := by decide +kernel
theorem dX9_u1_17 : decode cX9_u1 17 = .ok (.iadd, 1) := by decide +kernel
theorem dX9_u1_18 : decode cX9_u1 18 = .ok (.putfield 43, 3) := by decide +kernel
theorem dX9_u1_21 : decode cX9_u1 21 = .ok (.return_, 1) := by decide +kernel
set_option maxRecDepth 20000 in
theorem ggX9_u2_X9_u1 : GoodIn wsX9_u2 wsX9_u1 := goodIn_r _ [5, 6, 7, 8, 9, 10, 11, 12, 13, 14, 15, 16, 17, 18, 19, 20, 21, 22, 23, 24, 25, 26, 27] (by decide +kernel) (by decide +kernel)
set_option maxRecDepth 20000 in
theorem gX9_u2_X9_u1 : GoodIn wsX9_u2 (wsV RX9 54 RX9 yX9_u1 wsX9_u1) := goodIn_app (goodIn_of _ (by decide +kernel)) ggX9_u2_X9_u1
theorem dX9_u2_0 : decode cX9_u2 0 = .ok (.aload_n 0, 1) := by decide +kernel
theorem dX9_u2_1 : decode cX9_u2 1 = .ok (.iload_n 1, 1) := by decide +kernel
theorem dX9_u2_2 : decode cX9_u2 2 = .ok (.bipush 8, 2) := by decide +kernel
theorem dX9_u2_4 : decode cX9_u2 4 = .ok (.ishr, 1) := by decide +kernel
theorem dX9_u2_5 : decode cX9_u2 5 = .ok (.invokevirtual 54, 3) := by decide +kernel
theorem dX9_u2_8 : decode cX9_u2 8 = .ok (.aload_n 0, 1) := by decide +kernel
theorem dX9_u2_9 : decode cX9_u2 9 = .ok (.iload_n 1, 1) := by decide +kernel
theorem dX9_u2_10 : decode cX9_u2 10 = .ok (.invokevirtual 54, 3) := by decide +kernel
theorem dX9_u2_13 : decode cX9_u2 13 = .ok (.return_, 1) := by decide +kernel
set_option maxRecDepth 20000 in
theorem ggX9_u4_X9_u2 : GoodIn wsX9_u4 wsX9_u2 := goodIn_r _ [5, 6, 7, 8, 4, 9, 10, 11, 12, 13, 14, 15, 16, 17, 18, 19, 20, 21, 22, 23, 24, 25, 26, 27, 28, 29, 30, 31] (by decide +kernel) (by decide +kernel)
set_option maxRecDepth 20000 in
theorem gX9_u4_X9_u2 : GoodIn wsX9_u4 (wsV RX9 63 RX9 yX9_u2 wsX9_u2) := goodIn_app (goodIn_of _ (by decide +kernel)) ggX9_u4_X9_u2
theorem dX9_u4_0 : decode cX9_u4 0 = .ok (.aload_n 0, 1) := by decide +kernel
theorem dX9_u4_1 : decode cX9_u4 1 = .ok (.iload_n 1, 1) := by decide +kernel
theorem dX9_u4_2 : decode cX9_u4 2 = .ok (.bipush 16, 2) := by decide +kernel
theorem dX9_u4_4 : decode cX9_u4 4 = .ok (.ishr, 1) := by decide +kernel
theorem dX9_u4_5 : decode cX9_u4 5 = .ok (.invokevirtual 63, 3) := by decide +kernel
theorem dX9_u4_8 : decode cX9_u4 8 = .ok (.aload_n 0, 1) := by decide +kernel
theorem dX9_u4_9 : decode cX9_u4 9 = .ok (.iload_n 1, 1) := by decide +kernel
theorem dX9_u4_10 : decode cX9_u4 10 = .ok (.invokevirtual 63, 3) := by decide +kernel
theorem dX9_u4_13 : decode cX9_u4 13 = .ok (.return_, 1) := by decide +kernel
set_option maxRecDepth 20000 in
theorem ggX9_u8_X9_u4 : GoodIn wsX9_u8 wsX9_u4 := goodIn_r _ [5, 6, 7, 8, 4, 9, 10, 11, 12, 13, 14, 15, 16, 17, 18, 19, 20, 21, 22, 23, 24, 25, 26, 27, 28, 29, 30, 31, 32, 33, 34, 35] (by decide +kernel) (by decide +kernel)
set_option maxRecDepth 20000 in
theorem gX9_u8_X9_u4 : GoodIn wsX9_u8 (wsV RX9 46 RX9 yX9_u4 wsX9_u4) := goodIn_app (goodIn_of _ (by decide +kernel)) ggX9_u8_X9_u4
theorem dX9_u8_0 : decode cX9_u8 0 = .ok (.aload_n 0, 1) := by decide +kernel
theorem dX9_u8_1 : decode cX9_u8 1 = .ok (.lload_n 1, 1) := by decide +kernel
theorem dX9_u8_2 : decode cX9_u8 2 = .ok (.bipush 32, 2) := by decide +kernel
theorem dX9_u8_4 : decode cX9_u8 4 = .ok (.lshr, 1) := by decide +kernel
theorem dX9_u8_5 : decode cX9_u8 5 = .ok (.l2i, 1) := by decide +kernel
theorem dX9_u8_6 : decode cX9_u8 6 = .ok (.invokevirtual 46, 3) := by decide +kernel
theorem dX9_u8_9 : decode cX9_u8 9 = .ok (.aload_n 0, 1) := by decide +kernel
theorem dX9_u8_10 : decode cX9_u8 10 = .ok (.lload_n 1, 1) := by decide +kernel
theorem dX9_u8_11 : decode cX9_u8 11 = .ok (.l2i, 1) := by decide +kernel
theorem dX9_u8_12 : decode cX9_u8 12 = .ok (.invokevirtual 46, 3) := by decide +kernel
theorem dX9_u8_15 : decode cX9_u8 15 = .ok (.return_, 1) := by decide +kernel
theorem dX9_crc_0 : decode cX9_crc 0 = .ok (.iconst (-1), 1) := by decide +kernel
theorem dX9_crc_1 : decode cX9_crc 1 = .ok (.istore_n 3, 1) := by decide +kernel
theorem dX9_crc_2 : decode cX9_crc 2 = .ok (.iload_n 1, 1) := by decide +kernel
theorem dX9_crc_3 : decode cX9_crc 3 = .ok (.istore 4, 2) := by decide +kernel
theorem dX9_crc_5 : decode cX9_crc 5 = .ok (.iload 4, 2) := by decide +kernel
theorem dX9_crc_7 : decode cX9_crc 7 = .ok (.iload_n 2, 1) := by decide +kernel
theorem dX9_crc_8 : decode cX9_crc 8 = .ok (.if_icmp .ge 55, 3) := by decide +kernel
theorem dX9_crc_11 : decode cX9_crc 11 = .ok (.iload_n 3, 1) := by decide +kernel
theorem dX9_crc_12 : decode cX9_crc 12 = .ok (.aload_n 0, 1) := by decide +kernel
theorem dX9_crc_13 : decode cX9_crc 13 = .ok (.iload 4, 2) := by decide +kernel
theorem dX9_crc_15 : decode cX9_crc 15 = .ok (.baload, 1) := by decide +kernel
theorem dX9_crc_16 : decode cX9_crc 16 = .ok (.sipush 255, 3) := by decide +kernel
theorem dX9_crc_19 : decode cX9_crc 19 = .ok (.iand, 1) := by decide +kernel
theorem dX9_crc_20 : decode cX9_crc 20 = .ok (.ixor, 1) := by decide +kernel
theorem dX9_crc_21 : decode cX9_crc 21 = .ok (.istore_n 3, 1) := by decide +kernel
theorem dX9_crc_22 : decode cX9_crc 22 = .ok (.iconst 0, 1) := by decide +kernel
theorem dX9_crc_23 : decode cX9_crc 23 = .ok (.istore 5, 2) := by decide +kernel
theorem dX9_crc_25 : decode cX9_crc 25 = .ok (.iload 5, 2) := by decide +kernel
theorem dX9_crc_27 : decode cX9_crc 27 = .ok (.bipush 8, 2) := by decide +kernel
theorem dX9_crc_29 : decode cX9_crc 29 = .ok (.if_icmp .ge 28, 3) := by decide +kernel
theorem dX9_crc_32 : decode cX9_crc 32 = .ok (.iload_n 3, 1) := by decide +kernel
theorem dX9_crc_33 : decode cX9_crc 33 = .ok (.iconst 1, 1) := by decide +kernel
theorem dX9_crc_34 : decode cX9_crc 34 = .ok (.iand, 1) := by decide +kernel
theorem dX9_crc_35 : decode cX9_crc 35 = .ok (.ifCond .eq 12, 3) := by decide +kernel
theorem dX9_crc_38 : decode cX9_crc 38 = .ok (.iload_n 3, 1) := by decide +kernel
theorem dX9_crc_39 : decode cX9_crc 39 = .ok (.iconst 1, 1) := by decide +kernel
theorem dX9_crc_40 : decode cX9_crc 40 = .ok (.iushr, 1) := by decide +kernel
theorem dX9_crc_41 : decode cX9_crc 41 = .ok (.ldc 66, 2) := by decide +kernel
theorem dX9_crc_43 : decode cX9_crc 43 = .ok (.ixor, 1) := by decide +kernel
theorem dX9_crc_44 : decode cX9_crc 44 = .ok (.goto 6, 3) := by decide +kernel
theorem dX9_crc_47 : decode cX9_crc 47 = .ok (.iload_n 3, 1) := by decide +kernel
theorem dX9_crc_48 : decode cX9_crc 48 = .ok (.iconst 1, 1) := by decide +kernel
theorem dX9_crc_49 : decode cX9_crc 49 = .ok (.iushr, 1) := by decide +kernel
theorem dX9_crc_50 : decode cX9_crc 50 = .ok (.istore_n 3, 1) := by decide +kernel
theorem dX9_crc_51 : decode cX9_crc 51 = .ok (.iinc 5 1, 3) := by decide +kernel
theorem dX9_crc_54 : decode cX9_crc 54 = .ok (.goto (-29), 3) := by decide +kernel
theorem dX9_crc_57 : decode cX9_crc 57 = .ok (.iinc 4 1, 3) := by decide +kernel
theorem dX9_crc_60 : decode cX9_crc 60 = .ok (.goto (-55), 3) := by decide +kernel
theorem dX9_crc_63 : decode cX9_crc 63 = .ok (.iload_n 3, 1) := by decide +kernel
theorem dX9_crc_64 : decode cX9_crc 64 = .ok (.iconst (-1), 1) := by decide +kernel
theorem dX9_crc_65 : decode cX9_crc 65 = .ok (.ixor, 1) := by decide +kernel
theorem dX9_crc_66 : decode cX9_crc 66 = .ok (.ireturn, 1) := by decide +kernel
theorem dX9_take_0 : decode cX9_take 0 = .ok (.lconst 0, 1) := by decide +kernel
theorem dX9_take_1 : decode cX9_take 1 = .ok (.lstore_n 3, 1) := by decide +kernel
theorem dX9_take_2 : decode cX9_take 2 = .ok (.iconst 0, 1) := by decide +kernel
theorem dX9_take_3 : decode cX9_take 3 = .ok (.istore 5, 2) := by decide +kernel
theorem dX9_take_5 : decode cX9_take 5 = .ok (.iload 5, 2) := by decide +kernel
theorem dX9_take_7 : decode cX9_take 7 = .ok (.iload_n 2, 1) := by decide +kernel
theorem dX9_take_8 : decode cX9_take 8 = .ok (.if_icmp .ge 26, 3) := by decide +kernel
theorem dX9_take_11 : decode cX9_take 11 = .ok (.lload_n 3, 1) := by decide +kernel
theorem dX9_take_12 : decode cX9_take 12 = .ok (.bipush 8, 2) := by decide +kernel
theorem dX9_take_14 : decode cX9_take 14 = .ok (.lshl, 1) := by decide +kernel
theorem dX9_take_15 : decode cX9_take 15 = .ok (.aload_n 0, 1) := by decide +kernel
theorem dX9_take_16 : decode cX9_take 16 = .ok (.iload_n 1, 1) := by decide +kernel
theorem dX9_take_17 : decode cX9_take 17 = .ok (.iload 5, 2) := by decide +kernel
theorem dX9_take_19 : decode cX9_take 19 = .ok (.iadd, 1) := by decide +kernel
theorem dX9_take_20 : decode cX9_take 20 = .ok (.baload, 1) := by decide +kernel
theorem dX9_take_21 : decode cX9_take 21 = .ok (.sipush 255, 3) := by decide +kernel
theorem dX9_take_24 : decode cX9_take 24 = .ok (.iand, 1) := by decide +kernel
theorem dX9_take_25 : decode cX9_take 25 = .ok (.i2l, 1) := by decide +kernel
theorem dX9_take_26 : decode cX9_take 26 = .ok (.lor, 1) := by decide +kernel
theorem dX9_take_27 : decode cX9_take 27 = .ok (.lstore_n 3, 1) := by decide +kernel
theorem dX9_take_28 : decode cX9_take 28 = .ok (.iinc 5 1, 3) := by decide +kernel
theorem dX9_take_31 : decode cX9_take 31 = .ok (.goto (-26), 3) := by decide +kernel
theorem dX9_take_34 : decode cX9_take 34 = .ok (.lload_n 3, 1) := by decide +kernel
theorem dX9_take_35 : decode cX9_take 35 = .ok (.lreturn, 1) := by decide +kernel
theorem dX9_lengthOf_0 : decode cX9_lengthOf 0 = .ok (.iload_n 0, 1) := by decide +kernel
theorem dX9_lengthOf_1 : decode cX9_lengthOf 1 = .ok (.tableswitch 54 1 6 #[39, 42, 45, 48, 51, 42], 39) := by decide +kernel
theorem dX9_lengthOf_40 : decode cX9_lengthOf 40 = .ok (.bipush 17, 2) := by decide +kernel
theorem dX9_lengthOf_42 : decode cX9_lengthOf 42 = .ok (.ireturn, 1) := by decide +kernel
theorem dX9_lengthOf_43 : decode cX9_lengthOf 43 = .ok (.bipush 19, 2) := by decide +kernel
theorem dX9_lengthOf_45 : decode cX9_lengthOf 45 = .ok (.ireturn, 1) := by decide +kernel
theorem dX9_lengthOf_46 : decode cX9_lengthOf 46 = .ok (.bipush 11, 2) := by decide +kernel
theorem dX9_lengthOf_48 : decode cX9_lengthOf 48 = .ok (.ireturn, 1) := by decide +kernel
theorem dX9_lengthOf_49 : decode cX9_lengthOf 49 = .ok (.bipush 10, 2) := by decide +kernel
theorem dX9_lengthOf_51 : decode cX9_lengthOf 51 = .ok (.ireturn, 1) := by decide +kernel
theorem dX9_lengthOf_52 : decode cX9_lengthOf 52 = .ok (.bipush 8, 2) := by decide +kernel
theorem dX9_lengthOf_54 : decode cX9_lengthOf 54 = .ok (.ireturn, 1) := by decide +kernel
theorem dX9_lengthOf_55 : decode cX9_lengthOf 55 = .ok (.bipush 16, 2) := by decide +kernel
theorem dX9_lengthOf_57 : decode cX9_lengthOf 57 = .ok (.ireturn, 1) := by decide +kernel
set_option maxRecDepth 20000 in
theorem ggX9_begin_X9_lengthOf : GoodIn wsX9_begin wsX9_lengthOf := goodIn_r _ [5] (by decide +kernel) (by decide +kernel)
set_option maxRecDepth 20000 in
theorem gX9_begin_X9_lengthOf : GoodIn wsX9_begin (va_wsS RX9 67 yX9_lengthOf wsX9_lengthOf) := goodIn_app (goodIn_of _ (by decide +kernel)) ggX9_begin_X9_lengthOf
set_option maxRecDepth 20000 in
theorem ggX9_begin_X9_u2 : GoodIn wsX9_begin wsX9_u2 := goodIn_r _ [9, 10, 11, 12, 4, 13, 14, 1, 15, 16, 17, 18, 19, 20, 21, 22, 23, 24, 25, 26, 27, 28, 29, 30, 31, 32, 33, 34] (by decide +kernel) (by decide +kernel)
set_option maxRecDepth 20000 in
theorem gX9_begin_X9_u2 : GoodIn wsX9_begin (wsV RX9 63 RX9 yX9_u2 wsX9_u2) := goodIn_app (goodIn_of _ (by decide +kernel)) ggX9_begin_X9_u2
set_option maxRecDepth 20000 in
theorem ggX9_begin_X9_u1 : GoodIn wsX9_begin wsX9_u1 := goodIn_r _ [13, 14, 1, 15, 16, 17, 18, 19, 20, 21, 22, 23, 24, 25, 26, 27, 28, 29, 30, 31, 32, 33, 34] (by decide +kernel) (by decide +kernel)
set_option maxRecDepth 20000 in
theorem gX9_begin_X9_u1 : GoodIn wsX9_begin (wsV RX9 54 RX9 yX9_u1 wsX9_u1) := goodIn_app (goodIn_of _ (by decide +kernel)) ggX9_begin_X9_u1
end
section
theorem dX9_begin_0 : decode cX9_begin 0 = .ok (.aload_n 0, 1) := by decide +kernel
theorem dX9_begin_1 : decode cX9_begin 1 = .ok (.iconst 0, 1) := by decide +kernel
theorem dX9_begin_2 : decode cX9_begin 2 = .ok (.putfield 43, 3) := by decide +kernel
theorem dX9_begin_5 : decode cX9_begin 5 = .ok (.aload_n 0, 1) := by decide +kernel
theorem dX9_begin_6 : decode cX9_begin 6 = .ok (.iload_n 1, 1) := by decide +kernel
theorem dX9_begin_7 : decode cX9_begin 7 = .ok (.invokestatic 67, 3) := by decide +kernel
theorem dX9_begin_10 : decode cX9_begin 10 = .ok (.invokevirtual 63, 3) := by decide +kernel
theorem dX9_begin_13 : decode cX9_begin 13 = .ok (.aload_n 0, 1) := by decide +kernel
theorem dX9_begin_14 : decode cX9_begin 14 = .ok (.iload_n 1, 1) := by decide +kernel
theorem dX9_begin_15 : decode cX9_begin 15 = .ok (.invokevirtual 54, 3) := by decide +kernel
theorem dX9_begin_18 : decode cX9_begin 18 = .ok (.return_, 1) := by decide +kernel
set_option maxRecDepth 20000 in
theorem ggX9_checked_X9_crc : GoodIn wsX9_checked wsX9_crc := goodIn_r _ [6, 7] (by decide +kernel) (by decide +kernel)
set_option maxRecDepth 20000 in
theorem gX9_checked_X9_crc : GoodIn wsX9_checked (va_wsS RX9 50 yX9_crc wsX9_crc) := goodIn_app (goodIn_of _ (by decide +kernel)) ggX9_checked_X9_crc
set_option maxRecDepth 20000 in
theorem ggX9_checked_X9_u4 : GoodIn wsX9_checked wsX9_u4 := goodIn_r _ [11, 12, 13, 14, 5, 15, 16, 17, 18, 19, 1, 2, 20, 21, 22, 23, 24, 25, 26, 27, 28, 29, 30, 31, 32, 33, 34, 35, 36, 37, 38, 39] (by decide +kernel) (by decide +kernel)
set_option maxRecDepth 20000 in
theorem gX9_checked_X9_u4 : GoodIn wsX9_checked (wsV RX9 46 RX9 yX9_u4 wsX9_u4) := goodIn_app (goodIn_of _ (by decide +kernel)) ggX9_checked_X9_u4
set_option maxRecDepth 20000 in
theorem ggX9_checked_X9_u1 : GoodIn wsX9_checked wsX9_u1 := goodIn_r _ [19, 1, 2, 20, 21, 22, 23, 24, 25, 26, 27, 28, 29, 30, 31, 32, 33, 34, 35, 36, 37, 38, 39] (by decide +kernel) (by decide +kernel)
set_option maxRecDepth 20000 in
theorem gX9_checked_X9_u1 : GoodIn wsX9_checked (wsV RX9 54 RX9 yX9_u1 wsX9_u1) := goodIn_app (goodIn_of _ (by decide +kernel)) ggX9_checked_X9_u1
theorem dX9_checked_0 : decode cX9_checked 0 = .ok (.aload_n 0, 1) := by decide +kernel
theorem dX9_checked_1 : decode cX9_checked 1 = .ok (.aload_n 0, 1) := by decide +kernel
theorem dX9_checked_2 : decode cX9_checked 2 = .ok (.getfield 28, 3) := by decide +kernel
theorem dX9_checked_5 : decode cX9_checked 5 = .ok (.iconst 0, 1) := by decide +kernel
theorem dX9_checked_6 : decode cX9_checked 6 = .ok (.aload_n 0, 1) := by decide +kernel
theorem dX9_checked_7 : decode cX9_checked 7 = .ok (.getfield 43, 3) := by decide +kernel
theorem dX9_checked_10 : decode cX9_checked 10 = .ok (.invokestatic 50, 3) := by decide +kernel
theorem dX9_checked_13 : decode cX9_checked 13 = .ok (.invokevirtual 46, 3) := by decide +kernel
theorem dX9_checked_16 : decode cX9_checked 16 = .ok (.aload_n 0, 1) := by decide +kernel
theorem dX9_checked_17 : decode cX9_checked 17 = .ok (.sipush 165, 3) := by decide +kernel
theorem dX9_checked_20 : decode cX9_checked 20 = .ok (.invokevirtual 54, 3) := by decide +kernel
theorem dX9_checked_23 : decode cX9_checked 23 = .ok (.return_, 1) := by decide +kernel
set_option maxRecDepth 20000 in
theorem ggX9_write_X9_fails : GoodIn wsX9_write wsX9_fails := goodIn_r _ [8, 9, 10, 1, 11, 12, 13, 14, 15, 16, 17, 18, 19, 20, 21, 22, 23, 24, 25, 26, 27, 28, 29, 30] (by decide +kernel) (by decide +kernel)
set_option maxRecDepth 20000 in
theorem gX9_write_X9_fails : GoodIn wsX9_write (wsV RX9 71 RX9 yX9_fails wsX9_fails) := goodIn_app (goodIn_of _ (by decide +kernel)) ggX9_write_X9_fails
theorem dX9_write_0 : decode cX9_write 0 = .ok (.aload_n 0, 1) := by decide +kernel
theorem dX9_write_1 : decode cX9_write 1 = .ok (.getfield 9, 3) := by decide +kernel
theorem dX9_write_4 : decode cX9_write 4 = .ok (.ifCond .ne 9, 3) := by decide +kernel
theorem dX9_write_7 : decode cX9_write 7 = .ok (.aload_n 0, 1) := by decide +kernel
theorem dX9_write_8 : decode cX9_write 8 = .ok (.invokevirtual 71, 3) := by decide +kernel
theorem dX9_write_11 : decode cX9_write 11 = .ok (.iconst 0, 1) := by decide +kernel
theorem dX9_write_12 : decode cX9_write 12 = .ok (.ireturn, 1) := by decide +kernel
theorem dX9_write_13 : decode cX9_write 13 = .ok (.aload_n 0, 1) := by decide +kernel
theorem dX9_write_14 : decode cX9_write 14 = .ok (.getfield 40, 3) := by decide +kernel
theorem dX9_write_17 : decode cX9_write 17 = .ok (.iload_n 1, 1) := by decide +kernel
theorem dX9_write_18 : decode cX9_write 18 = .ok (.aaload, 1) := by decide +kernel
theorem dX9_write_19 : decode cX9_write 19 = .ok (.iload_n 2, 1) := by decide +kernel
theorem dX9_write_20 : decode cX9_write 20 = .ok (.iload_n 3, 1) := by decide +kernel
theorem dX9_write_21 : decode cX9_write 21 = .ok (.bastore, 1) := by decide +kernel
theorem dX9_write_22 : decode cX9_write 22 = .ok (.aload_n 0, 1) := by decide +kernel
theorem dX9_write_23 : decode cX9_write 23 = .ok (.dup, 1) := by decide +kernel
theorem dX9_write_24 : decode cX9_write 24 = .ok (.getfield 74, 3) := by decide +kernel
theorem dX9_write_27 : decode cX9_write 27 = .ok (.iconst 1, 1) := by decide +kernel
theorem dX9_write_28 : decode cX9_write 28 = .ok (.iadd, 1) := by decide +kernel
theorem dX9_write_29 : decode cX9_write 29 = .ok (.putfield 74, 3) := by decide +kernel
theorem dX9_write_32 : decode cX9_write 32 = .ok (.aload_n 0, 1) := by decide +kernel
theorem dX9_write_33 : decode cX9_write 33 = .ok (.getfield 9, 3) := by decide +kernel
theorem dX9_write_36 : decode cX9_write 36 = .ok (.ifCond .le 26, 3) := by decide +kernel
theorem dX9_write_39 : decode cX9_write 39 = .ok (.aload_n 0, 1) := by decide +kernel
theorem dX9_write_40 : decode cX9_write 40 = .ok (.dup, 1) := by decide +kernel
theorem dX9_write_41 : decode cX9_write 41 = .ok (.getfield 9, 3) := by decide +kernel
theorem dX9_write_44 : decode cX9_write 44 = .ok (.iconst 1, 1) := by decide +kernel
theorem dX9_write_45 : decode cX9_write 45 = .ok (.isub, 1) := by decide +kernel
theorem dX9_write_46 : decode cX9_write 46 = .ok (.putfield 9, 3) := by decide +kernel
theorem dX9_write_49 : decode cX9_write 49 = .ok (.aload_n 0, 1) := by decide +kernel
theorem dX9_write_50 : decode cX9_write 50 = .ok (.getfield 9, 3) := by decide +kernel
theorem dX9_write_53 : decode cX9_write 53 = .ok (.ifCond .ne 9, 3) := by decide +kernel
theorem dX9_write_56 : decode cX9_write 56 = .ok (.aload_n 0, 1) := by decide +kernel
theorem dX9_write_57 : decode cX9_write 57 = .ok (.invokevirtual 71, 3) := by decide +kernel
theorem dX9_write_60 : decode cX9_write 60 = .ok (.iconst 0, 1) := by decide +kernel
theorem dX9_write_61 : decode cX9_write 61 = .ok (.ireturn, 1) := by decide +kernel
theorem dX9_write_62 : decode cX9_write 62 = .ok (.iconst 1, 1) := by decide +kernel
theorem dX9_write_63 : decode cX9_write 63 = .ok (.ireturn, 1) := by decide +kernel
theorem dX9_fails_0 : decode cX9_fails 0 = .ok (.aload_n 0, 1) := by decide +kernel
theorem dX9_fails_1 : decode cX9_fails 1 = .ok (.iconst 1, 1) := by decide +kernel
theorem dX9_fails_2 : decode cX9_fails 2 = .ok (.putfield 77, 3) := by decide +kernel
theorem dX9_fails_5 : decode cX9_fails 5 = .ok (.aload_n 0, 1) := by decide +kernel
theorem dX9_fails_6 : decode cX9_fails 6 = .ok (.dup, 1) := by decide +kernel
theorem dX9_fails_7 : decode cX9_fails 7 = .ok (.getfield 81, 3) := by decide +kernel
theorem dX9_fails_10 : decode cX9_fails 10 = .ok (.iconst 1, 1) := by decide +kernel
theorem dX9_fails_11 : decode cX9_fails 11 = .ok (.iadd, 1) := by decide +kernel
theorem dX9_fails_12 : decode cX9_fails 12 = .ok (.putfield 81, 3) := by decide +kernel
theorem dX9_fails_15 : decode cX9_fails 15 = .ok (.aload_n 0, 1) := by decide +kernel
theorem dX9_fails_16 : decode cX9_fails 16 = .ok (.iconst (-1), 1) := by decide +kernel
theorem dX9_fails_17 : decode cX9_fails 17 = .ok (.putfield 9, 3) := by decide +kernel
theorem dX9_fails_20 : decode cX9_fails 20 = .ok (.return_, 1) := by decide +kernel
set_option maxRecDepth 20000 in
theorem ggX9_writeRow_X9_write : GoodIn wsX9_writeRow wsX9_write := goodIn_r _ [7, 8, 9, 10, 11, 12, 13, 6, 14, 15, 16, 17, 18, 19, 20, 21, 22, 23, 24, 25, 26, 27, 28, 29, 30, 31, 32, 33, 34, 35, 36] (by decide +kernel) (by decide +kernel)
set_option maxRecDepth 20000 in
theorem gX9_writeRow_X9_write : GoodIn wsX9_writeRow (wsV RX9 84 RX9 yX9_write wsX9_write) := goodIn_app (goodIn_of _ (by decide +kernel)) ggX9_writeRow_X9_write
theorem dX9_writeRow_0 : decode cX9_writeRow 0 = .ok (.iconst 0, 1) := by decide +kernel
theorem dX9_writeRow_1 : decode cX9_writeRow 1 = .ok (.istore_n 3, 1) := by decide +kernel
theorem dX9_writeRow_2 : decode cX9_writeRow 2 = .ok (.iload_n 3, 1) := by decide +kernel
theorem dX9_writeRow_3 : decode cX9_writeRow 3 = .ok (.aload_n 0, 1) := by decide +kernel
theorem dX9_writeRow_4 : decode cX9_writeRow 4 = .ok (.getfield 43, 3) := by decide +kernel
theorem dX9_writeRow_7 : decode cX9_writeRow 7 = .ok (.if_icmp .ge 28, 3) := by decide +kernel
theorem dX9_writeRow_10 : decode cX9_writeRow 10 = .ok (.aload_n 0, 1) := by decide +kernel
theorem dX9_writeRow_11 : decode cX9_writeRow 11 = .ok (.iload_n 1, 1) := by decide +kernel
theorem dX9_writeRow_12 : decode cX9_writeRow 12 = .ok (.iload_n 2, 1) := by decide +kernel
theorem dX9_writeRow_13 : decode cX9_writeRow 13 = .ok (.iload_n 3, 1) := by decide +kernel
theorem dX9_writeRow_14 : decode cX9_writeRow 14 = .ok (.iadd, 1) := by decide +kernel
theorem dX9_writeRow_15 : decode cX9_writeRow 15 = .ok (.aload_n 0, 1) := by decide +kernel
theorem dX9_writeRow_16 : decode cX9_writeRow 16 = .ok (.getfield 28, 3) := by decide +kernel
theorem dX9_writeRow_19 : decode cX9_writeRow 19 = .ok (.iload_n 3, 1) := by decide +kernel
theorem dX9_writeRow_20 : decode cX9_writeRow 20 = .ok (.baload, 1) := by decide +kernel
theorem dX9_writeRow_21 : decode cX9_writeRow 21 = .ok (.invokevirtual 84, 3) := by decide +kernel
theorem dX9_writeRow_24 : decode cX9_writeRow 24 = .ok (.ifCond .ne 5, 3) := by decide +kernel
theorem dX9_writeRow_27 : decode cX9_writeRow 27 = .ok (.iconst 0, 1) := by decide +kernel
theorem dX9_writeRow_28 : decode cX9_writeRow 28 = .ok (.ireturn, 1) := by decide +kernel
theorem dX9_writeRow_29 : decode cX9_writeRow 29 = .ok (.iinc 3 1, 3) := by decide +kernel
theorem dX9_writeRow_32 : decode cX9_writeRow 32 = .ok (.goto (-30), 3) := by decide +kernel
theorem dX9_writeRow_35 : decode cX9_writeRow 35 = .ok (.iconst 1, 1) := by decide +kernel
theorem dX9_writeRow_36 : decode cX9_writeRow 36 = .ok (.ireturn, 1) := by decide +kernel
theorem dX9_cut_0 : decode cX9_cut 0 = .ok (.iload_n 1, 1) := by decide +kernel
theorem dX9_cut_1 : decode cX9_cut 1 = .ok (.ifCond .lt 10, 3) := by decide +kernel
theorem dX9_cut_4 : decode cX9_cut 4 = .ok (.aload_n 0, 1) := by decide +kernel
theorem dX9_cut_5 : decode cX9_cut 5 = .ok (.getfield 77, 3) := by decide +kernel
theorem dX9_cut_8 : decode cX9_cut 8 = .ok (.ifCond .eq 5, 3) := by decide +kernel
theorem dX9_cut_11 : decode cX9_cut 11 = .ok (.iconst (-1), 1) := by decide +kernel
theorem dX9_cut_12 : decode cX9_cut 12 = .ok (.ireturn, 1) := by decide +kernel
theorem dX9_cut_13 : decode cX9_cut 13 = .ok (.aload_n 0, 1) := by decide +kernel
theorem dX9_cut_14 : decode cX9_cut 14 = .ok (.iload_n 1, 1) := by decide +kernel
theorem dX9_cut_15 : decode cX9_cut 15 = .ok (.putfield 9, 3) := by decide +kernel
theorem dX9_cut_18 : decode cX9_cut 18 = .ok (.iconst 1, 1) := by decide +kernel
theorem dX9_cut_19 : decode cX9_cut 19 = .ok (.ireturn, 1) := by decide +kernel
set_option maxRecDepth 20000 in
theorem ggX9_isRight_X9_take : GoodIn wsX9_isRight wsX9_take := goodIn_r _ [5] (by decide +kernel) (by decide +kernel)
set_option maxRecDepth 20000 in
theorem gX9_isRight_X9_take : GoodIn wsX9_isRight (va_wsS RX9 88 yX9_take wsX9_take) := goodIn_app (goodIn_of _ (by decide +kernel)) ggX9_isRight_X9_take
set_option maxRecDepth 20000 in
theorem ggX9_isRight_X9_crc : GoodIn wsX9_isRight wsX9_crc := goodIn_r _ [8, 9] (by decide +kernel) (by decide +kernel)
set_option maxRecDepth 20000 in
theorem gX9_isRight_X9_crc : GoodIn wsX9_isRight (va_wsS RX9 50 yX9_crc wsX9_crc) := goodIn_app (goodIn_of _ (by decide +kernel)) ggX9_isRight_X9_crc
theorem dX9_isRight_0 : decode cX9_isRight 0 = .ok (.aload_n 0, 1) := by decide +kernel
theorem dX9_isRight_1 : decode cX9_isRight 1 = .ok (.getfield 40, 3) := by decide +kernel
theorem dX9_isRight_4 : decode cX9_isRight 4 = .ok (.iload_n 1, 1) := by decide +kernel
theorem dX9_isRight_5 : decode cX9_isRight 5 = .ok (.aaload, 1) := by decide +kernel
theorem dX9_isRight_6 : decode cX9_isRight 6 = .ok (.iconst 4, 1) := by decide +kernel
theorem dX9_isRight_7 : decode cX9_isRight 7 = .ok (.iconst 4, 1) := by decide +kernel
theorem dX9_isRight_8 : decode cX9_isRight 8 = .ok (.invokestatic 88, 3) := by decide +kernel
theorem dX9_isRight_11 : decode cX9_isRight 11 = .ok (.l2i, 1) := by decide +kernel
theorem dX9_isRight_12 : decode cX9_isRight 12 = .ok (.aload_n 0, 1) := by decide +kernel
theorem dX9_isRight_13 : decode cX9_isRight 13 = .ok (.getfield 40, 3) := by decide +kernel
theorem dX9_isRight_16 : decode cX9_isRight 16 = .ok (.iload_n 1, 1) := by decide +kernel
theorem dX9_isRight_17 : decode cX9_isRight 17 = .ok (.aaload, 1) := by decide +kernel
theorem dX9_isRight_18 : decode cX9_isRight 18 = .ok (.iconst 0, 1) := by decide +kernel
theorem dX9_isRight_19 : decode cX9_isRight 19 = .ok (.iconst 4, 1) := by decide +kernel
theorem dX9_isRight_20 : decode cX9_isRight 20 = .ok (.invokestatic 50, 3) := by decide +kernel
theorem dX9_isRight_23 : decode cX9_isRight 23 = .ok (.if_icmp .ne 26, 3) := by decide +kernel
theorem dX9_isRight_26 : decode cX9_isRight 26 = .ok (.aload_n 0, 1) := by decide +kernel
theorem dX9_isRight_27 : decode cX9_isRight 27 = .ok (.getfield 40, 3) := by decide +kernel
theorem dX9_isRight_30 : decode cX9_isRight 30 = .ok (.iload_n 1, 1) := by decide +kernel
theorem dX9_isRight_31 : decode cX9_isRight 31 = .ok (.aaload, 1) := by decide +kernel
theorem dX9_isRight_32 : decode cX9_isRight 32 = .ok (.bipush 8, 2) := by decide +kernel
theorem dX9_isRight_34 : decode cX9_isRight 34 = .ok (.baload, 1) := by decide +kernel
theorem dX9_isRight_35 : decode cX9_isRight 35 = .ok (.sipush 255, 3) := by decide +kernel
theorem dX9_isRight_38 : decode cX9_isRight 38 = .ok (.iand, 1) := by decide +kernel
theorem dX9_isRight_39 : decode cX9_isRight 39 = .ok (.sipush 165, 3) := by decide +kernel
theorem dX9_isRight_42 : decode cX9_isRight 42 = .ok (.if_icmp .ne 7, 3) := by decide +kernel
theorem dX9_isRight_45 : decode cX9_isRight 45 = .ok (.iconst 1, 1) := by decide +kernel
theorem dX9_isRight_46 : decode cX9_isRight 46 = .ok (.goto 4, 3) := by decide +kernel
theorem dX9_isRight_49 : decode cX9_isRight 49 = .ok (.iconst 0, 1) := by decide +kernel
theorem dX9_isRight_50 : decode cX9_isRight 50 = .ok (.ireturn, 1) := by decide +kernel
set_option maxRecDepth 20000 in
theorem ggX9_generation_X9_take : GoodIn wsX9_generation wsX9_take := goodIn_r _ [5] (by decide +kernel) (by decide +kernel)
set_option maxRecDepth 20000 in
theorem gX9_generation_X9_take : GoodIn wsX9_generation (va_wsS RX9 88 yX9_take wsX9_take) := goodIn_app (goodIn_of _ (by decide +kernel)) ggX9_generation_X9_take
theorem dX9_generation_0 : decode cX9_generation 0 = .ok (.aload_n 0, 1) := by decide +kernel
theorem dX9_generation_1 : decode cX9_generation 1 = .ok (.getfield 40, 3) := by decide +kernel
theorem dX9_generation_4 : decode cX9_generation 4 = .ok (.iload_n 1, 1) := by decide +kernel
theorem dX9_generation_5 : decode cX9_generation 5 = .ok (.aaload, 1) := by decide +kernel
theorem dX9_generation_6 : decode cX9_generation 6 = .ok (.iconst 0, 1) := by decide +kernel
theorem dX9_generation_7 : decode cX9_generation 7 = .ok (.iconst 4, 1) := by decide +kernel
theorem dX9_generation_8 : decode cX9_generation 8 = .ok (.invokestatic 88, 3) := by decide +kernel
theorem dX9_generation_11 : decode cX9_generation 11 = .ok (.lreturn, 1) := by decide +kernel
set_option maxRecDepth 20000 in
theorem ggX9_recover_X9_isRight : GoodIn wsX9_recover wsX9_isRight := goodIn_r _ [12, 4, 13, 14, 11, 15, 16, 17, 18, 19, 48, 49, 50, 51, 52, 53, 54, 55, 56, 57, 58, 59, 60, 61, 62, 63, 64, 65, 66, 67] (by decide +kernel) (by decide +kernel)
set_option maxRecDepth 20000 in
theorem gX9_recover_X9_isRight : GoodIn wsX9_recover (wsV RX9 92 RX9 yX9_isRight wsX9_isRight) := goodIn_app (goodIn_of _ (by decide +kernel)) ggX9_recover_X9_isRight
set_option maxRecDepth 20000 in
theorem ggX9_recover_X9_generation : GoodIn wsX9_recover wsX9_generation := goodIn_r _ [23, 4, 13, 14, 11, 15, 48, 49, 50, 51, 52, 53, 54, 55, 56, 57, 58, 59, 60, 61, 62, 63, 64, 65, 66, 67] (by decide +kernel) (by decide +kernel)
set_option maxRecDepth 20000 in
theorem gX9_recover_X9_generation : GoodIn wsX9_recover (wsV RX9 96 RX9 yX9_generation wsX9_generation) := goodIn_app (goodIn_of _ (by decide +kernel)) ggX9_recover_X9_generation
set_option maxRecDepth 20000 in
theorem ggX9_recover_X9_reads : GoodIn wsX9_recover wsX9_reads := goodIn_r _ [27, 4, 1, 7, 28, 29, 2, 30, 31, 32, 33, 34, 11, 35, 3, 13, 14, 15, 16, 17, 18, 19, 36, 37, 38, 39, 40, 41, 42, 43, 44, 45, 46, 47, 48, 49, 50, 51, 52, 53, 54, 55, 56, 57, 58, 59, 60, 61, 62, 63, 64, 65, 66, 67] (by decide +kernel) (by decide +kernel)
set_option maxRecDepth 20000 in
theorem gX9_recover_X9_reads : GoodIn wsX9_recover (wsV RX9 57 RX9 yX9_reads wsX9_reads) := goodIn_app (goodIn_of _ (by decide +kernel)) ggX9_recover_X9_reads
theorem dX9_recover_0 : decode cX9_recover 0 = .ok (.aload_n 0, 1) := by decide +kernel
theorem dX9_recover_1 : decode cX9_recover 1 = .ok (.iconst 1, 1) := by decide +kernel
theorem dX9_recover_2 : decode cX9_recover 2 = .ok (.invokevirtual 92, 3) := by decide +kernel
theorem dX9_recover_5 : decode cX9_recover 5 = .ok (.ifCond .eq 29, 3) := by decide +kernel
theorem dX9_recover_8 : decode cX9_recover 8 = .ok (.aload_n 0, 1) := by decide +kernel
theorem dX9_recover_9 : decode cX9_recover 9 = .ok (.iconst 0, 1) := by decide +kernel
theorem dX9_recover_10 : decode cX9_recover 10 = .ok (.invokevirtual 92, 3) := by decide +kernel
theorem dX9_recover_13 : decode cX9_recover 13 = .ok (.ifCond .eq 17, 3) := by decide +kernel
theorem dX9_recover_16 : decode cX9_recover 16 = .ok (.aload_n 0, 1) := by decide +kernel
theorem dX9_recover_17 : decode cX9_recover 17 = .ok (.iconst 1, 1) := by decide +kernel
theorem dX9_recover_18 : decode cX9_recover 18 = .ok (.invokevirtual 96, 3) := by decide +kernel
theorem dX9_recover_21 : decode cX9_recover 21 = .ok (.aload_n 0, 1) := by decide +kernel
theorem dX9_recover_22 : decode cX9_recover 22 = .ok (.iconst 0, 1) := by decide +kernel
theorem dX9_recover_23 : decode cX9_recover 23 = .ok (.invokevirtual 96, 3) := by decide +kernel
theorem dX9_recover_26 : decode cX9_recover 26 = .ok (.lcmp, 1) := by decide +kernel
theorem dX9_recover_27 : decode cX9_recover 27 = .ok (.ifCond .le 7, 3) := by decide +kernel
theorem dX9_recover_30 : decode cX9_recover 30 = .ok (.iconst 1, 1) := by decide +kernel
theorem dX9_recover_31 : decode cX9_recover 31 = .ok (.goto 4, 3) := by decide +kernel
theorem dX9_recover_34 : decode cX9_recover 34 = .ok (.iconst 0, 1) := by decide +kernel
theorem dX9_recover_35 : decode cX9_recover 35 = .ok (.istore_n 1, 1) := by decide +kernel
theorem dX9_recover_36 : decode cX9_recover 36 = .ok (.aload_n 0, 1) := by decide +kernel
theorem dX9_recover_37 : decode cX9_recover 37 = .ok (.iload_n 1, 1) := by decide +kernel
theorem dX9_recover_38 : decode cX9_recover 38 = .ok (.ifCond .eq 7, 3) := by decide +kernel
theorem dX9_recover_41 : decode cX9_recover 41 = .ok (.iconst 1, 1) := by decide +kernel
theorem dX9_recover_42 : decode cX9_recover 42 = .ok (.goto 4, 3) := by decide +kernel
theorem dX9_recover_45 : decode cX9_recover 45 = .ok (.iconst 0, 1) := by decide +kernel
theorem dX9_recover_46 : decode cX9_recover 46 = .ok (.putfield 100, 3) := by decide +kernel
theorem dX9_recover_49 : decode cX9_recover 49 = .ok (.aload_n 0, 1) := by decide +kernel
theorem dX9_recover_50 : decode cX9_recover 50 = .ok (.invokevirtual 57, 3) := by decide +kernel
theorem dX9_recover_53 : decode cX9_recover 53 = .ok (.aload_n 0, 1) := by decide +kernel
theorem dX9_recover_54 : decode cX9_recover 54 = .ok (.getfield 103, 3) := by decide +kernel
theorem dX9_recover_57 : decode cX9_recover 57 = .ok (.istore_n 2, 1) := by decide +kernel
theorem dX9_recover_58 : decode cX9_recover 58 = .ok (.iload_n 2, 1) := by decide +kernel
theorem dX9_recover_59 : decode cX9_recover 59 = .ok (.aload_n 0, 1) := by decide +kernel
theorem dX9_recover_60 : decode cX9_recover 60 = .ok (.getfield 35, 3) := by decide +kernel
theorem dX9_recover_63 : decode cX9_recover 63 = .ok (.if_icmp .ge 21, 3) := by decide +kernel
theorem dX9_recover_66 : decode cX9_recover 66 = .ok (.aload_n 0, 1) := by decide +kernel
theorem dX9_recover_67 : decode cX9_recover 67 = .ok (.getfield 40, 3) := by decide +kernel
theorem dX9_recover_70 : decode cX9_recover 70 = .ok (.aload_n 0, 1) := by decide +kernel
theorem dX9_recover_71 : decode cX9_recover 71 = .ok (.getfield 100, 3) := by decide +kernel
theorem dX9_recover_74 : decode cX9_recover 74 = .ok (.aaload, 1) := by decide +kernel
theorem dX9_recover_75 : decode cX9_recover 75 = .ok (.iload_n 2, 1) := by decide +kernel
theorem dX9_recover_76 : decode cX9_recover 76 = .ok (.iconst 0, 1) := by decide +kernel
theorem dX9_recover_77 : decode cX9_recover 77 = .ok (.bastore, 1) := by decide +kernel
theorem dX9_recover_78 : decode cX9_recover 78 = .ok (.iinc 2 1, 3) := by decide +kernel
theorem dX9_recover_81 : decode cX9_recover 81 = .ok (.goto (-23), 3) := by decide +kernel
theorem dX9_recover_84 : decode cX9_recover 84 = .ok (.aload_n 0, 1) := by decide +kernel
theorem dX9_recover_85 : decode cX9_recover 85 = .ok (.iconst 0, 1) := by decide +kernel
theorem dX9_recover_86 : decode cX9_recover 86 = .ok (.putfield 77, 3) := by decide +kernel
theorem dX9_recover_89 : decode cX9_recover 89 = .ok (.aload_n 0, 1) := by decide +kernel
theorem dX9_recover_90 : decode cX9_recover 90 = .ok (.iconst (-1), 1) := by decide +kernel
theorem dX9_recover_91 : decode cX9_recover 91 = .ok (.putfield 9, 3) := by decide +kernel
theorem dX9_recover_94 : decode cX9_recover 94 = .ok (.aload_n 0, 1) := by decide +kernel
theorem dX9_recover_95 : decode cX9_recover 95 = .ok (.getfield 106, 3) := by decide +kernel
theorem dX9_recover_98 : decode cX9_recover 98 = .ok (.ireturn, 1) := by decide +kernel
set_option maxRecDepth 20000 in
theorem ggX9_whole_X9_take : GoodIn wsX9_whole wsX9_take := goodIn_r _ [7] (by decide +kernel) (by decide +kernel)
set_option maxRecDepth 20000 in
theorem gX9_whole_X9_take : GoodIn wsX9_whole (va_wsS RX9 88 yX9_take wsX9_take) := goodIn_app (goodIn_of _ (by decide +kernel)) ggX9_whole_X9_take
set_option maxRecDepth 20000 in
theorem ggX9_whole_X9_crc : GoodIn wsX9_whole wsX9_crc := goodIn_r _ [10, 11] (by decide +kernel) (by decide +kernel)
set_option maxRecDepth 20000 in
theorem gX9_whole_X9_crc : GoodIn wsX9_whole (va_wsS RX9 50 yX9_crc wsX9_crc) := goodIn_app (goodIn_of _ (by decide +kernel)) ggX9_whole_X9_crc
theorem dX9_whole_0 : decode cX9_whole 0 = .ok (.aload_n 0, 1) := by decide +kernel
theorem dX9_whole_1 : decode cX9_whole 1 = .ok (.getfield 40, 3) := by decide +kernel
theorem dX9_whole_4 : decode cX9_whole 4 = .ok (.aload_n 0, 1) := by decide +kernel
theorem dX9_whole_5 : decode cX9_whole 5 = .ok (.getfield 100, 3) := by decide +kernel
theorem dX9_whole_8 : decode cX9_whole 8 = .ok (.aaload, 1) := by decide +kernel
theorem dX9_whole_9 : decode cX9_whole 9 = .ok (.astore_n 2, 1) := by decide +kernel
theorem dX9_whole_10 : decode cX9_whole 10 = .ok (.iload_n 1, 1) := by decide +kernel
theorem dX9_whole_11 : decode cX9_whole 11 = .ok (.iconst 2, 1) := by decide +kernel
theorem dX9_whole_12 : decode cX9_whole 12 = .ok (.iadd, 1) := by decide +kernel
theorem dX9_whole_13 : decode cX9_whole 13 = .ok (.aload_n 0, 1) := by decide +kernel
theorem dX9_whole_14 : decode cX9_whole 14 = .ok (.getfield 35, 3) := by decide +kernel
theorem dX9_whole_17 : decode cX9_whole 17 = .ok (.if_icmp .le 5, 3) := by decide +kernel
theorem dX9_whole_20 : decode cX9_whole 20 = .ok (.iconst 0, 1) := by decide +kernel
theorem dX9_whole_21 : decode cX9_whole 21 = .ok (.ireturn, 1) := by decide +kernel
theorem dX9_whole_22 : decode cX9_whole 22 = .ok (.aload_n 2, 1) := by decide +kernel
theorem dX9_whole_23 : decode cX9_whole 23 = .ok (.iload_n 1, 1) := by decide +kernel
theorem dX9_whole_24 : decode cX9_whole 24 = .ok (.iconst 2, 1) := by decide +kernel
theorem dX9_whole_25 : decode cX9_whole 25 = .ok (.invokestatic 88, 3) := by decide +kernel
theorem dX9_whole_28 : decode cX9_whole 28 = .ok (.l2i, 1) := by decide +kernel
theorem dX9_whole_29 : decode cX9_whole 29 = .ok (.istore_n 3, 1) := by decide +kernel
theorem dX9_whole_30 : decode cX9_whole 30 = .ok (.iload_n 3, 1) := by decide +kernel
theorem dX9_whole_31 : decode cX9_whole 31 = .ok (.bipush 8, 2) := by decide +kernel
theorem dX9_whole_33 : decode cX9_whole 33 = .ok (.if_icmp .lt 13, 3) := by decide +kernel
theorem dX9_whole_36 : decode cX9_whole 36 = .ok (.iload_n 1, 1) := by decide +kernel
theorem dX9_whole_37 : decode cX9_whole 37 = .ok (.iload_n 3, 1) := by decide +kernel
theorem dX9_whole_38 : decode cX9_whole 38 = .ok (.iadd, 1) := by decide +kernel
theorem dX9_whole_39 : decode cX9_whole 39 = .ok (.aload_n 0, 1) := by decide +kernel
theorem dX9_whole_40 : decode cX9_whole 40 = .ok (.getfield 35, 3) := by decide +kernel
theorem dX9_whole_43 : decode cX9_whole 43 = .ok (.if_icmp .le 5, 3) := by decide +kernel
theorem dX9_whole_46 : decode cX9_whole 46 = .ok (.iconst 0, 1) := by decide +kernel
theorem dX9_whole_47 : decode cX9_whole 47 = .ok (.ireturn, 1) := by decide +kernel
theorem dX9_whole_48 : decode cX9_whole 48 = .ok (.aload_n 2, 1) := by decide +kernel
theorem dX9_whole_49 : decode cX9_whole 49 = .ok (.iload_n 1, 1) := by decide +kernel
theorem dX9_whole_50 : decode cX9_whole 50 = .ok (.iload_n 3, 1) := by decide +kernel
theorem dX9_whole_51 : decode cX9_whole 51 = .ok (.iadd, 1) := by decide +kernel
theorem dX9_whole_52 : decode cX9_whole 52 = .ok (.iconst 5, 1) := by decide +kernel
theorem dX9_whole_53 : decode cX9_whole 53 = .ok (.isub, 1) := by decide +kernel
theorem dX9_whole_54 : decode cX9_whole 54 = .ok (.iconst 4, 1) := by decide +kernel
theorem dX9_whole_55 : decode cX9_whole 55 = .ok (.invokestatic 88, 3) := by decide +kernel
theorem dX9_whole_58 : decode cX9_whole 58 = .ok (.l2i, 1) := by decide +kernel
theorem dX9_whole_59 : decode cX9_whole 59 = .ok (.aload_n 2, 1) := by decide +kernel
theorem dX9_whole_60 : decode cX9_whole 60 = .ok (.iload_n 1, 1) := by decide +kernel
theorem dX9_whole_61 : decode cX9_whole 61 = .ok (.iload_n 1, 1) := by decide +kernel
theorem dX9_whole_62 : decode cX9_whole 62 = .ok (.iload_n 3, 1) := by decide +kernel
theorem dX9_whole_63 : decode cX9_whole 63 = .ok (.iadd, 1) := by decide +kernel
theorem dX9_whole_64 : decode cX9_whole 64 = .ok (.iconst 5, 1) := by decide +kernel
theorem dX9_whole_65 : decode cX9_whole 65 = .ok (.isub, 1) := by decide +kernel
theorem dX9_whole_66 : decode cX9_whole 66 = .ok (.invokestatic 50, 3) := by decide +kernel
theorem dX9_whole_69 : decode cX9_whole 69 = .ok (.if_icmp .ne 24, 3) := by decide +kernel
theorem dX9_whole_72 : decode cX9_whole 72 = .ok (.aload_n 2, 1) := by decide +kernel
theorem dX9_whole_73 : decode cX9_whole 73 = .ok (.iload_n 1, 1) := by decide +kernel
theorem dX9_whole_74 : decode cX9_whole 74 = .ok (.iload_n 3, 1) := by decide +kernel
theorem dX9_whole_75 : decode cX9_whole 75 = .ok (.iadd, 1) := by decide +kernel
theorem dX9_whole_76 : decode cX9_whole 76 = .ok (.iconst 1, 1) := by decide +kernel
theorem dX9_whole_77 : decode cX9_whole 77 = .ok (.isub, 1) := by decide +kernel
theorem dX9_whole_78 : decode cX9_whole 78 = .ok (.baload, 1) := by decide +kernel
theorem dX9_whole_79 : decode cX9_whole 79 = .ok (.sipush 255, 3) := by decide +kernel
theorem dX9_whole_82 : decode cX9_whole 82 = .ok (.iand, 1) := by decide +kernel
theorem dX9_whole_83 : decode cX9_whole 83 = .ok (.sipush 165, 3) := by decide +kernel
theorem dX9_whole_86 : decode cX9_whole 86 = .ok (.if_icmp .ne 7, 3) := by decide +kernel
theorem dX9_whole_89 : decode cX9_whole 89 = .ok (.iload_n 3, 1) := by decide +kernel
theorem dX9_whole_90 : decode cX9_whole 90 = .ok (.goto 4, 3) := by decide +kernel
theorem dX9_whole_93 : decode cX9_whole 93 = .ok (.iconst 0, 1) := by decide +kernel
theorem dX9_whole_94 : decode cX9_whole 94 = .ok (.ireturn, 1) := by decide +kernel
set_option maxRecDepth 20000 in
theorem ggX9_reads_X9_whole : GoodIn wsX9_reads wsX9_whole := goodIn_r _ [13, 1, 2, 14, 15, 16, 12, 17, 18, 19, 20, 21, 34, 35, 36, 37, 38, 39, 40, 41, 42, 43, 44, 45, 46, 47, 48, 49, 50, 51, 52, 53] (by decide +kernel) (by decide +kernel)
set_option maxRecDepth 20000 in
theorem gX9_reads_X9_whole : GoodIn wsX9_reads (wsV RX9 112 RX9 yX9_whole wsX9_whole) := goodIn_app (goodIn_of _ (by decide +kernel)) ggX9_reads_X9_whole
set_option maxRecDepth 20000 in
theorem ggX9_reads_X9_apply : GoodIn wsX9_reads wsX9_apply := goodIn_r _ [25, 26, 27, 8, 28, 15, 16, 12, 17, 29, 30, 31, 32, 7, 33, 34, 35, 36, 37, 38, 39, 40, 41, 42, 43, 44, 45, 46, 47, 48, 49, 50, 51, 52, 53] (by decide +kernel) (by decide +kernel)
set_option maxRecDepth 20000 in
theorem gX9_reads_X9_apply : GoodIn wsX9_reads (wsV RX9 122 RX9 yX9_apply wsX9_apply) := goodIn_app (goodIn_of _ (by decide +kernel)) ggX9_reads_X9_apply
theorem dX9_reads_0 : decode cX9_reads 0 = .ok (.aload_n 0, 1) := by decide +kernel
theorem dX9_reads_1 : decode cX9_reads 1 = .ok (.getfield 40, 3) := by decide +kernel
theorem dX9_reads_4 : decode cX9_reads 4 = .ok (.aload_n 0, 1) := by decide +kernel
theorem dX9_reads_5 : decode cX9_reads 5 = .ok (.getfield 100, 3) := by decide +kernel
theorem dX9_reads_8 : decode cX9_reads 8 = .ok (.aaload, 1) := by decide +kernel
theorem dX9_reads_9 : decode cX9_reads 9 = .ok (.astore_n 1, 1) := by decide +kernel
theorem dX9_reads_10 : decode cX9_reads 10 = .ok (.iconst 0, 1) := by decide +kernel
theorem dX9_reads_11 : decode cX9_reads 11 = .ok (.istore_n 2, 1) := by decide +kernel
theorem dX9_reads_12 : decode cX9_reads 12 = .ok (.bipush 9, 2) := by decide +kernel
theorem dX9_reads_14 : decode cX9_reads 14 = .ok (.istore_n 3, 1) := by decide +kernel
theorem dX9_reads_15 : decode cX9_reads 15 = .ok (.aload_n 0, 1) := by decide +kernel
theorem dX9_reads_16 : decode cX9_reads 16 = .ok (.iconst 0, 1) := by decide +kernel
theorem dX9_reads_17 : decode cX9_reads 17 = .ok (.putfield 106, 3) := by decide +kernel
theorem dX9_reads_20 : decode cX9_reads 20 = .ok (.aload_n 0, 1) := by decide +kernel
theorem dX9_reads_21 : decode cX9_reads 21 = .ok (.iconst 0, 1) := by decide +kernel
theorem dX9_reads_22 : decode cX9_reads 22 = .ok (.putfield 109, 3) := by decide +kernel
theorem dX9_reads_25 : decode cX9_reads 25 = .ok (.aload_n 0, 1) := by decide +kernel
theorem dX9_reads_26 : decode cX9_reads 26 = .ok (.iload_n 3, 1) := by decide +kernel
theorem dX9_reads_27 : decode cX9_reads 27 = .ok (.invokevirtual 112, 3) := by decide +kernel
theorem dX9_reads_30 : decode cX9_reads 30 = .ok (.istore 4, 2) := by decide +kernel
theorem dX9_reads_32 : decode cX9_reads 32 = .ok (.iload 4, 2) := by decide +kernel
theorem dX9_reads_34 : decode cX9_reads 34 = .ok (.ifCond .le 87, 3) := by decide +kernel
theorem dX9_reads_37 : decode cX9_reads 37 = .ok (.aload_n 1, 1) := by decide +kernel
theorem dX9_reads_38 : decode cX9_reads 38 = .ok (.iload_n 3, 1) := by decide +kernel
theorem dX9_reads_39 : decode cX9_reads 39 = .ok (.iconst 2, 1) := by decide +kernel
theorem dX9_reads_40 : decode cX9_reads 40 = .ok (.iadd, 1) := by decide +kernel
theorem dX9_reads_41 : decode cX9_reads 41 = .ok (.baload, 1) := by decide +kernel
theorem dX9_reads_42 : decode cX9_reads 42 = .ok (.istore 5, 2) := by decide +kernel
theorem dX9_reads_44 : decode cX9_reads 44 = .ok (.iload 5, 2) := by decide +kernel
theorem dX9_reads_46 : decode cX9_reads 46 = .ok (.iconst 5, 1) := by decide +kernel
theorem dX9_reads_47 : decode cX9_reads 47 = .ok (.if_icmp .ne 19, 3) := by decide +kernel
theorem dX9_reads_50 : decode cX9_reads 50 = .ok (.iinc 2 (-1), 3) := by decide +kernel
theorem dX9_reads_53 : decode cX9_reads 53 = .ok (.aload_n 0, 1) := by decide +kernel
theorem dX9_reads_54 : decode cX9_reads 54 = .ok (.dup, 1) := by decide +kernel
theorem dX9_reads_55 : decode cX9_reads 55 = .ok (.getfield 109, 3) := by decide +kernel
theorem dX9_reads_58 : decode cX9_reads 58 = .ok (.iconst 1, 1) := by decide +kernel
theorem dX9_reads_59 : decode cX9_reads 59 = .ok (.isub, 1) := by decide +kernel
theorem dX9_reads_60 : decode cX9_reads 60 = .ok (.putfield 109, 3) := by decide +kernel
theorem dX9_reads_63 : decode cX9_reads 63 = .ok (.goto 33, 3) := by decide +kernel
theorem dX9_reads_66 : decode cX9_reads 66 = .ok (.aload_n 0, 1) := by decide +kernel
theorem dX9_reads_67 : decode cX9_reads 67 = .ok (.getfield 32, 3) := by decide +kernel
theorem dX9_reads_70 : decode cX9_reads 70 = .ok (.iload_n 2, 1) := by decide +kernel
theorem dX9_reads_71 : decode cX9_reads 71 = .ok (.iload_n 3, 1) := by decide +kernel
theorem dX9_reads_72 : decode cX9_reads 72 = .ok (.iastore, 1) := by decide +kernel
theorem dX9_reads_73 : decode cX9_reads 73 = .ok (.iinc 2 1, 3) := by decide +kernel
theorem dX9_reads_76 : decode cX9_reads 76 = .ok (.aload_n 0, 1) := by decide +kernel
theorem dX9_reads_77 : decode cX9_reads 77 = .ok (.dup, 1) := by decide +kernel
theorem dX9_reads_78 : decode cX9_reads 78 = .ok (.getfield 109, 3) := by decide +kernel
theorem dX9_reads_81 : decode cX9_reads 81 = .ok (.iload 5, 2) := by decide +kernel
theorem dX9_reads_83 : decode cX9_reads 83 = .ok (.iconst 5, 1) := by decide +kernel
theorem dX9_reads_84 : decode cX9_reads 84 = .ok (.if_icmp .ge 7, 3) := by decide +kernel
theorem dX9_reads_87 : decode cX9_reads 87 = .ok (.iconst 1, 1) := by decide +kernel
theorem dX9_reads_88 : decode cX9_reads 88 = .ok (.goto 4, 3) := by decide +kernel
theorem dX9_reads_91 : decode cX9_reads 91 = .ok (.iconst 0, 1) := by decide +kernel
theorem dX9_reads_92 : decode cX9_reads 92 = .ok (.iadd, 1) := by decide +kernel
theorem dX9_reads_93 : decode cX9_reads 93 = .ok (.putfield 109, 3) := by decide +kernel
theorem dX9_reads_96 : decode cX9_reads 96 = .ok (.aload_n 0, 1) := by decide +kernel
theorem dX9_reads_97 : decode cX9_reads 97 = .ok (.dup, 1) := by decide +kernel
theorem dX9_reads_98 : decode cX9_reads 98 = .ok (.getfield 106, 3) := by decide +kernel
theorem dX9_reads_101 : decode cX9_reads 101 = .ok (.iconst 1, 1) := by decide +kernel
theorem dX9_reads_102 : decode cX9_reads 102 = .ok (.iadd, 1) := by decide +kernel
theorem dX9_reads_103 : decode cX9_reads 103 = .ok (.putfield 106, 3) := by decide +kernel
theorem dX9_reads_106 : decode cX9_reads 106 = .ok (.iload_n 3, 1) := by decide +kernel
theorem dX9_reads_107 : decode cX9_reads 107 = .ok (.iload 4, 2) := by decide +kernel
theorem dX9_reads_109 : decode cX9_reads 109 = .ok (.iadd, 1) := by decide +kernel
theorem dX9_reads_110 : decode cX9_reads 110 = .ok (.istore_n 3, 1) := by decide +kernel
theorem dX9_reads_111 : decode cX9_reads 111 = .ok (.aload_n 0, 1) := by decide +kernel
theorem dX9_reads_112 : decode cX9_reads 112 = .ok (.iload_n 3, 1) := by decide +kernel
theorem dX9_reads_113 : decode cX9_reads 113 = .ok (.invokevirtual 112, 3) := by decide +kernel
theorem dX9_reads_116 : decode cX9_reads 116 = .ok (.istore 4, 2) := by decide +kernel
theorem dX9_reads_118 : decode cX9_reads 118 = .ok (.goto (-86), 3) := by decide +kernel
theorem dX9_reads_121 : decode cX9_reads 121 = .ok (.aload_n 0, 1) := by decide +kernel
theorem dX9_reads_122 : decode cX9_reads 122 = .ok (.iload_n 3, 1) := by decide +kernel
theorem dX9_reads_123 : decode cX9_reads 123 = .ok (.putfield 103, 3) := by decide +kernel
theorem dX9_reads_126 : decode cX9_reads 126 = .ok (.aload_n 0, 1) := by decide +kernel
theorem dX9_reads_127 : decode cX9_reads 127 = .ok (.iconst 0, 1) := by decide +kernel
theorem dX9_reads_128 : decode cX9_reads 128 = .ok (.putfield 115, 3) := by decide +kernel
theorem dX9_reads_131 : decode cX9_reads 131 = .ok (.aload_n 0, 1) := by decide +kernel
theorem dX9_reads_132 : decode cX9_reads 132 = .ok (.lconst 0, 1) := by decide +kernel
theorem dX9_reads_133 : decode cX9_reads 133 = .ok (.putfield 118, 3) := by decide +kernel
theorem dX9_reads_136 : decode cX9_reads 136 = .ok (.iconst 0, 1) := by decide +kernel
theorem dX9_reads_137 : decode cX9_reads 137 = .ok (.istore 4, 2) := by decide +kernel
theorem dX9_reads_139 : decode cX9_reads 139 = .ok (.iload 4, 2) := by decide +kernel
theorem dX9_reads_141 : decode cX9_reads 141 = .ok (.iload_n 2, 1) := by decide +kernel
theorem dX9_reads_142 : decode cX9_reads 142 = .ok (.if_icmp .ge 23, 3) := by decide +kernel
theorem dX9_reads_145 : decode cX9_reads 145 = .ok (.aload_n 0, 1) := by decide +kernel
theorem dX9_reads_146 : decode cX9_reads 146 = .ok (.aload_n 1, 1) := by decide +kernel
theorem dX9_reads_147 : decode cX9_reads 147 = .ok (.aload_n 0, 1) := by decide +kernel
theorem dX9_reads_148 : decode cX9_reads 148 = .ok (.getfield 32, 3) := by decide +kernel
theorem dX9_reads_151 : decode cX9_reads 151 = .ok (.iload 4, 2) := by decide +kernel
theorem dX9_reads_153 : decode cX9_reads 153 = .ok (.iaload, 1) := by decide +kernel
theorem dX9_reads_154 : decode cX9_reads 154 = .ok (.iconst 2, 1) := by decide +kernel
theorem dX9_reads_155 : decode cX9_reads 155 = .ok (.iadd, 1) := by decide +kernel
theorem dX9_reads_156 : decode cX9_reads 156 = .ok (.invokevirtual 122, 3) := by decide +kernel
theorem dX9_reads_159 : decode cX9_reads 159 = .ok (.iinc 4 1, 3) := by decide +kernel
theorem dX9_reads_162 : decode cX9_reads 162 = .ok (.goto (-23), 3) := by decide +kernel
theorem dX9_reads_165 : decode cX9_reads 165 = .ok (.return_, 1) := by decide +kernel
theorem dX9_comes_0 : decode cX9_comes 0 = .ok (.aload_n 0, 1) := by decide +kernel
theorem dX9_comes_1 : decode cX9_comes 1 = .ok (.dup, 1) := by decide +kernel
theorem dX9_comes_2 : decode cX9_comes 2 = .ok (.getfield 115, 3) := by decide +kernel
theorem dX9_comes_5 : decode cX9_comes 5 = .ok (.iconst 1, 1) := by decide +kernel
theorem dX9_comes_6 : decode cX9_comes 6 = .ok (.iadd, 1) := by decide +kernel
theorem dX9_comes_7 : decode cX9_comes 7 = .ok (.putfield 115, 3) := by decide +kernel
theorem dX9_comes_10 : decode cX9_comes 10 = .ok (.aload_n 0, 1) := by decide +kernel
theorem dX9_comes_11 : decode cX9_comes 11 = .ok (.getfield 13, 3) := by decide +kernel
theorem dX9_comes_14 : decode cX9_comes 14 = .ok (.aload_n 0, 1) := by decide +kernel
theorem dX9_comes_15 : decode cX9_comes 15 = .ok (.getfield 115, 3) := by decide +kernel
theorem dX9_comes_18 : decode cX9_comes 18 = .ok (.iload_n 1, 1) := by decide +kernel
theorem dX9_comes_19 : decode cX9_comes 19 = .ok (.iastore, 1) := by decide +kernel
theorem dX9_comes_20 : decode cX9_comes 20 = .ok (.aload_n 0, 1) := by decide +kernel
theorem dX9_comes_21 : decode cX9_comes 21 = .ok (.getfield 17, 3) := by decide +kernel
theorem dX9_comes_24 : decode cX9_comes 24 = .ok (.aload_n 0, 1) := by decide +kernel
theorem dX9_comes_25 : decode cX9_comes 25 = .ok (.getfield 115, 3) := by decide +kernel
theorem dX9_comes_28 : decode cX9_comes 28 = .ok (.iload_n 2, 1) := by decide +kernel
theorem dX9_comes_29 : decode cX9_comes 29 = .ok (.iastore, 1) := by decide +kernel
theorem dX9_comes_30 : decode cX9_comes 30 = .ok (.aload_n 0, 1) := by decide +kernel
theorem dX9_comes_31 : decode cX9_comes 31 = .ok (.getfield 24, 3) := by decide +kernel
theorem dX9_comes_34 : decode cX9_comes 34 = .ok (.aload_n 0, 1) := by decide +kernel
theorem dX9_comes_35 : decode cX9_comes 35 = .ok (.getfield 115, 3) := by decide +kernel
theorem dX9_comes_38 : decode cX9_comes 38 = .ok (.lload_n 3, 1) := by decide +kernel
theorem dX9_comes_39 : decode cX9_comes 39 = .ok (.lastore, 1) := by decide +kernel
theorem dX9_comes_40 : decode cX9_comes 40 = .ok (.aload_n 0, 1) := by decide +kernel
theorem dX9_comes_41 : decode cX9_comes 41 = .ok (.getfield 20, 3) := by decide +kernel
theorem dX9_comes_44 : decode cX9_comes 44 = .ok (.aload_n 0, 1) := by decide +kernel
theorem dX9_comes_45 : decode cX9_comes 45 = .ok (.getfield 115, 3) := by decide +kernel
theorem dX9_comes_48 : decode cX9_comes 48 = .ok (.iload 5, 2) := by decide +kernel
theorem dX9_comes_50 : decode cX9_comes 50 = .ok (.bastore, 1) := by decide +kernel
theorem dX9_comes_51 : decode cX9_comes 51 = .ok (.return_, 1) := by decide +kernel
set_option maxRecDepth 20000 in
theorem ggX9_apply_X9_take : GoodIn wsX9_apply wsX9_take := goodIn_r _ [8] (by decide +kernel) (by decide +kernel)
set_option maxRecDepth 20000 in
theorem gX9_apply_X9_take : GoodIn wsX9_apply (va_wsS RX9 88 yX9_take wsX9_take) := goodIn_app (goodIn_of _ (by decide +kernel)) ggX9_apply_X9_take
set_option maxRecDepth 20000 in
theorem ggX9_apply_X9_comes : GoodIn wsX9_apply wsX9_comes := goodIn_r _ [12, 13, 14, 2, 1, 4, 15, 16, 17, 18, 19, 20, 21, 22, 23, 24, 25, 26, 27, 28, 29, 30, 31, 32, 33, 34] (by decide +kernel) (by decide +kernel)
set_option maxRecDepth 20000 in
theorem gX9_apply_X9_comes : GoodIn wsX9_apply (wsV RX9 126 RX9 yX9_comes wsX9_comes) := goodIn_app (goodIn_of _ (by decide +kernel)) ggX9_apply_X9_comes
theorem dX9_apply_0 : decode cX9_apply 0 = .ok (.aload_n 1, 1) := by decide +kernel
theorem dX9_apply_1 : decode cX9_apply 1 = .ok (.iload_n 2, 1) := by decide +kernel
theorem dX9_apply_2 : decode cX9_apply 2 = .ok (.iconst 1, 1) := by decide +kernel
theorem dX9_apply_3 : decode cX9_apply 3 = .ok (.iadd, 1) := by decide +kernel
theorem dX9_apply_4 : decode cX9_apply 4 = .ok (.iconst 2, 1) := by decide +kernel
theorem dX9_apply_5 : decode cX9_apply 5 = .ok (.invokestatic 88, 3) := by decide +kernel
theorem dX9_apply_8 : decode cX9_apply 8 = .ok (.l2i, 1) := by decide +kernel
theorem dX9_apply_9 : decode cX9_apply 9 = .ok (.istore_n 3, 1) := by decide +kernel
theorem dX9_apply_10 : decode cX9_apply 10 = .ok (.aload_n 1, 1) := by decide +kernel
theorem dX9_apply_11 : decode cX9_apply 11 = .ok (.iload_n 2, 1) := by decide +kernel
theorem dX9_apply_12 : decode cX9_apply 12 = .ok (.baload, 1) := by decide +kernel
theorem dX9_apply_13 : decode cX9_apply 13 = .ok (.tableswitch 195 1 6 #[39, 62, 103, 117, 195, 149], 39) := by decide +kernel
theorem dX9_apply_52 : decode cX9_apply 52 = .ok (.aload_n 0, 1) := by decide +kernel
theorem dX9_apply_53 : decode cX9_apply 53 = .ok (.iconst 0, 1) := by decide +kernel
theorem dX9_apply_54 : decode cX9_apply 54 = .ok (.aload_n 1, 1) := by decide +kernel
theorem dX9_apply_55 : decode cX9_apply 55 = .ok (.iload_n 2, 1) := by decide +kernel
theorem dX9_apply_56 : decode cX9_apply 56 = .ok (.iconst 1, 1) := by decide +kernel
theorem dX9_apply_57 : decode cX9_apply 57 = .ok (.iadd, 1) := by decide +kernel
theorem dX9_apply_58 : decode cX9_apply 58 = .ok (.baload, 1) := by decide +kernel
theorem dX9_apply_59 : decode cX9_apply 59 = .ok (.aload_n 1, 1) := by decide +kernel
theorem dX9_apply_60 : decode cX9_apply 60 = .ok (.iload_n 2, 1) := by decide +kernel
theorem dX9_apply_61 : decode cX9_apply 61 = .ok (.iconst 2, 1) := by decide +kernel
theorem dX9_apply_62 : decode cX9_apply 62 = .ok (.iadd, 1) := by decide +kernel
theorem dX9_apply_63 : decode cX9_apply 63 = .ok (.bipush 8, 2) := by decide +kernel
theorem dX9_apply_65 : decode cX9_apply 65 = .ok (.invokestatic 88, 3) := by decide +kernel
theorem dX9_apply_68 : decode cX9_apply 68 = .ok (.iconst 1, 1) := by decide +kernel
theorem dX9_apply_69 : decode cX9_apply 69 = .ok (.invokevirtual 126, 3) := by decide +kernel
theorem dX9_apply_72 : decode cX9_apply 72 = .ok (.goto 149, 3) := by decide +kernel
theorem dX9_apply_75 : decode cX9_apply 75 = .ok (.aload_n 0, 1) := by decide +kernel
theorem dX9_apply_76 : decode cX9_apply 76 = .ok (.getfield 24, 3) := by decide +kernel
theorem dX9_apply_79 : decode cX9_apply 79 = .ok (.iload_n 3, 1) := by decide +kernel
theorem dX9_apply_80 : decode cX9_apply 80 = .ok (.dup2, 1) := by decide +kernel
theorem dX9_apply_81 : decode cX9_apply 81 = .ok (.laload, 1) := by decide +kernel
theorem dX9_apply_82 : decode cX9_apply 82 = .ok (.aload_n 1, 1) := by decide +kernel
theorem dX9_apply_83 : decode cX9_apply 83 = .ok (.iload_n 2, 1) := by decide +kernel
theorem dX9_apply_84 : decode cX9_apply 84 = .ok (.iconst 4, 1) := by decide +kernel
theorem dX9_apply_85 : decode cX9_apply 85 = .ok (.iadd, 1) := by decide +kernel
theorem dX9_apply_86 : decode cX9_apply 86 = .ok (.bipush 8, 2) := by decide +kernel
theorem dX9_apply_88 : decode cX9_apply 88 = .ok (.invokestatic 88, 3) := by decide +kernel
theorem dX9_apply_91 : decode cX9_apply 91 = .ok (.lsub, 1) := by decide +kernel
theorem dX9_apply_92 : decode cX9_apply 92 = .ok (.lastore, 1) := by decide +kernel
theorem dX9_apply_93 : decode cX9_apply 93 = .ok (.aload_n 0, 1) := by decide +kernel
theorem dX9_apply_94 : decode cX9_apply 94 = .ok (.iload_n 3, 1) := by decide +kernel
theorem dX9_apply_95 : decode cX9_apply 95 = .ok (.aload_n 1, 1) := by decide +kernel
theorem dX9_apply_96 : decode cX9_apply 96 = .ok (.iload_n 2, 1) := by decide +kernel
theorem dX9_apply_97 : decode cX9_apply 97 = .ok (.iconst 3, 1) := by decide +kernel
theorem dX9_apply_98 : decode cX9_apply 98 = .ok (.iadd, 1) := by decide +kernel
theorem dX9_apply_99 : decode cX9_apply 99 = .ok (.baload, 1) := by decide +kernel
theorem dX9_apply_100 : decode cX9_apply 100 = .ok (.aload_n 1, 1) := by decide +kernel
theorem dX9_apply_101 : decode cX9_apply 101 = .ok (.iload_n 2, 1) := by decide +kernel
theorem dX9_apply_102 : decode cX9_apply 102 = .ok (.iconst 4, 1) := by decide +kernel
theorem dX9_apply_103 : decode cX9_apply 103 = .ok (.iadd, 1) := by decide +kernel
theorem dX9_apply_104 : decode cX9_apply 104 = .ok (.bipush 8, 2) := by decide +kernel
theorem dX9_apply_106 : decode cX9_apply 106 = .ok (.invokestatic 88, 3) := by decide +kernel
theorem dX9_apply_109 : decode cX9_apply 109 = .ok (.iconst 1, 1) := by decide +kernel
theorem dX9_apply_110 : decode cX9_apply 110 = .ok (.invokevirtual 126, 3) := by decide +kernel
theorem dX9_apply_113 : decode cX9_apply 113 = .ok (.goto 108, 3) := by decide +kernel
theorem dX9_apply_116 : decode cX9_apply 116 = .ok (.aload_n 0, 1) := by decide +kernel
theorem dX9_apply_117 : decode cX9_apply 117 = .ok (.getfield 17, 3) := by decide +kernel
theorem dX9_apply_120 : decode cX9_apply 120 = .ok (.iload_n 3, 1) := by decide +kernel
theorem dX9_apply_121 : decode cX9_apply 121 = .ok (.aload_n 1, 1) := by decide +kernel
theorem dX9_apply_122 : decode cX9_apply 122 = .ok (.iload_n 2, 1) := by decide +kernel
theorem dX9_apply_123 : decode cX9_apply 123 = .ok (.iconst 3, 1) := by decide +kernel
theorem dX9_apply_124 : decode cX9_apply 124 = .ok (.iadd, 1) := by decide +kernel
theorem dX9_apply_125 : decode cX9_apply 125 = .ok (.baload, 1) := by decide +kernel
theorem dX9_apply_126 : decode cX9_apply 126 = .ok (.iastore, 1) := by decide +kernel
theorem dX9_apply_127 : decode cX9_apply 127 = .ok (.goto 94, 3) := by decide +kernel
theorem dX9_apply_130 : decode cX9_apply 130 = .ok (.aload_n 0, 1) := by decide +kernel
theorem dX9_apply_131 : decode cX9_apply 131 = .ok (.dup, 1) := by decide +kernel
theorem dX9_apply_132 : decode cX9_apply 132 = .ok (.getfield 118, 3) := by decide +kernel
theorem dX9_apply_135 : decode cX9_apply 135 = .ok (.aload_n 0, 1) := by decide +kernel
theorem dX9_apply_136 : decode cX9_apply 136 = .ok (.getfield 24, 3) := by decide +kernel
theorem dX9_apply_139 : decode cX9_apply 139 = .ok (.iload_n 3, 1) := by decide +kernel
theorem dX9_apply_140 : decode cX9_apply 140 = .ok (.laload, 1) := by decide +kernel
theorem dX9_apply_141 : decode cX9_apply 141 = .ok (.ladd, 1) := by decide +kernel
theorem dX9_apply_142 : decode cX9_apply 142 = .ok (.putfield 118, 3) := by decide +kernel
theorem dX9_apply_145 : decode cX9_apply 145 = .ok (.aload_n 0, 1) := by decide +kernel
theorem dX9_apply_146 : decode cX9_apply 146 = .ok (.getfield 24, 3) := by decide +kernel
theorem dX9_apply_149 : decode cX9_apply 149 = .ok (.iload_n 3, 1) := by decide +kernel
theorem dX9_apply_150 : decode cX9_apply 150 = .ok (.lconst 0, 1) := by decide +kernel
theorem dX9_apply_151 : decode cX9_apply 151 = .ok (.lastore, 1) := by decide +kernel
theorem dX9_apply_152 : decode cX9_apply 152 = .ok (.aload_n 0, 1) := by decide +kernel
theorem dX9_apply_153 : decode cX9_apply 153 = .ok (.getfield 20, 3) := by decide +kernel
theorem dX9_apply_156 : decode cX9_apply 156 = .ok (.iload_n 3, 1) := by decide +kernel
theorem dX9_apply_157 : decode cX9_apply 157 = .ok (.iconst 0, 1) := by decide +kernel
theorem dX9_apply_158 : decode cX9_apply 158 = .ok (.bastore, 1) := by decide +kernel
theorem dX9_apply_159 : decode cX9_apply 159 = .ok (.goto 62, 3) := by decide +kernel
theorem dX9_apply_162 : decode cX9_apply 162 = .ok (.aload_n 0, 1) := by decide +kernel
theorem dX9_apply_163 : decode cX9_apply 163 = .ok (.iload_n 3, 1) := by decide +kernel
theorem dX9_apply_164 : decode cX9_apply 164 = .ok (.aload_n 1, 1) := by decide +kernel
theorem dX9_apply_165 : decode cX9_apply 165 = .ok (.iload_n 2, 1) := by decide +kernel
theorem dX9_apply_166 : decode cX9_apply 166 = .ok (.iconst 3, 1) := by decide +kernel
theorem dX9_apply_167 : decode cX9_apply 167 = .ok (.iadd, 1) := by decide +kernel
theorem dX9_apply_168 : decode cX9_apply 168 = .ok (.baload, 1) := by decide +kernel
theorem dX9_apply_169 : decode cX9_apply 169 = .ok (.sipush 255, 3) := by decide +kernel
theorem dX9_apply_172 : decode cX9_apply 172 = .ok (.iand, 1) := by decide +kernel
theorem dX9_apply_173 : decode cX9_apply 173 = .ok (.aload_n 1, 1) := by decide +kernel
theorem dX9_apply_174 : decode cX9_apply 174 = .ok (.iload_n 2, 1) := by decide +kernel
theorem dX9_apply_175 : decode cX9_apply 175 = .ok (.iconst 4, 1) := by decide +kernel
theorem dX9_apply_176 : decode cX9_apply 176 = .ok (.iadd, 1) := by decide +kernel
theorem dX9_apply_177 : decode cX9_apply 177 = .ok (.bipush 8, 2) := by decide +kernel
theorem dX9_apply_179 : decode cX9_apply 179 = .ok (.invokestatic 88, 3) := by decide +kernel
theorem dX9_apply_182 : decode cX9_apply 182 = .ok (.aload_n 1, 1) := by decide +kernel
theorem dX9_apply_183 : decode cX9_apply 183 = .ok (.iload_n 2, 1) := by decide +kernel
theorem dX9_apply_184 : decode cX9_apply 184 = .ok (.iconst 3, 1) := by decide +kernel
theorem dX9_apply_185 : decode cX9_apply 185 = .ok (.iadd, 1) := by decide +kernel
theorem dX9_apply_186 : decode cX9_apply 186 = .ok (.baload, 1) := by decide +kernel
theorem dX9_apply_187 : decode cX9_apply 187 = .ok (.sipush 255, 3) := by decide +kernel
theorem dX9_apply_190 : decode cX9_apply 190 = .ok (.iand, 1) := by decide +kernel
theorem dX9_apply_191 : decode cX9_apply 191 = .ok (.sipush 255, 3) := by decide +kernel
theorem dX9_apply_194 : decode cX9_apply 194 = .ok (.if_icmp .eq 7, 3) := by decide +kernel
theorem dX9_apply_197 : decode cX9_apply 197 = .ok (.iconst 1, 1) := by decide +kernel
theorem dX9_apply_198 : decode cX9_apply 198 = .ok (.goto 4, 3) := by decide +kernel
theorem dX9_apply_201 : decode cX9_apply 201 = .ok (.iconst 0, 1) := by decide +kernel
theorem dX9_apply_202 : decode cX9_apply 202 = .ok (.invokevirtual 126, 3) := by decide +kernel
theorem dX9_apply_205 : decode cX9_apply 205 = .ok (.goto 16, 3) := by decide +kernel
theorem dX9_apply_208 : decode cX9_apply 208 = .ok (.aload_n 0, 1) := by decide +kernel
theorem dX9_apply_209 : decode cX9_apply 209 = .ok (.aload_n 1, 1) := by decide +kernel
theorem dX9_apply_210 : decode cX9_apply 210 = .ok (.iload_n 2, 1) := by decide +kernel
theorem dX9_apply_211 : decode cX9_apply 211 = .ok (.iconst 1, 1) := by decide +kernel
theorem dX9_apply_212 : decode cX9_apply 212 = .ok (.iadd, 1) := by decide +kernel
theorem dX9_apply_213 : decode cX9_apply 213 = .ok (.bipush 8, 2) := by decide +kernel
theorem dX9_apply_215 : decode cX9_apply 215 = .ok (.invokestatic 88, 3) := by decide +kernel
theorem dX9_apply_218 : decode cX9_apply 218 = .ok (.putfield 118, 3) := by decide +kernel
theorem dX9_apply_221 : decode cX9_apply 221 = .ok (.return_, 1) := by decide +kernel
theorem dX9_liveIn_0 : decode cX9_liveIn 0 = .ok (.iconst 1, 1) := by decide +kernel
theorem dX9_liveIn_1 : decode cX9_liveIn 1 = .ok (.istore_n 2, 1) := by decide +kernel
theorem dX9_liveIn_2 : decode cX9_liveIn 2 = .ok (.iload_n 2, 1) := by decide +kernel
theorem dX9_liveIn_3 : decode cX9_liveIn 3 = .ok (.aload_n 0, 1) := by decide +kernel
theorem dX9_liveIn_4 : decode cX9_liveIn 4 = .ok (.getfield 115, 3) := by decide +kernel
theorem dX9_liveIn_7 : decode cX9_liveIn 7 = .ok (.if_icmp .gt 30, 3) := by decide +kernel
theorem dX9_liveIn_10 : decode cX9_liveIn 10 = .ok (.aload_n 0, 1) := by decide +kernel
theorem dX9_liveIn_11 : decode cX9_liveIn 11 = .ok (.getfield 20, 3) := by decide +kernel
theorem dX9_liveIn_14 : decode cX9_liveIn 14 = .ok (.iload_n 2, 1) := by decide +kernel
theorem dX9_liveIn_15 : decode cX9_liveIn 15 = .ok (.baload, 1) := by decide +kernel
theorem dX9_liveIn_16 : decode cX9_liveIn 16 = .ok (.ifCond .eq 15, 3) := by decide +kernel
theorem dX9_liveIn_19 : decode cX9_liveIn 19 = .ok (.aload_n 0, 1) := by decide +kernel
theorem dX9_liveIn_20 : decode cX9_liveIn 20 = .ok (.getfield 17, 3) := by decide +kernel
theorem dX9_liveIn_23 : decode cX9_liveIn 23 = .ok (.iload_n 2, 1) := by decide +kernel
theorem dX9_liveIn_24 : decode cX9_liveIn 24 = .ok (.iaload, 1) := by decide +kernel
theorem dX9_liveIn_25 : decode cX9_liveIn 25 = .ok (.iload_n 1, 1) := by decide +kernel
theorem dX9_liveIn_26 : decode cX9_liveIn 26 = .ok (.if_icmp .ne 5, 3) := by decide +kernel
theorem dX9_liveIn_29 : decode cX9_liveIn 29 = .ok (.iload_n 2, 1) := by decide +kernel
theorem dX9_liveIn_30 : decode cX9_liveIn 30 = .ok (.ireturn, 1) := by decide +kernel
theorem dX9_liveIn_31 : decode cX9_liveIn 31 = .ok (.iinc 2 1, 3) := by decide +kernel
theorem dX9_liveIn_34 : decode cX9_liveIn 34 = .ok (.goto (-32), 3) := by decide +kernel
theorem dX9_liveIn_37 : decode cX9_liveIn 37 = .ok (.iconst (-1), 1) := by decide +kernel
theorem dX9_liveIn_38 : decode cX9_liveIn 38 = .ok (.ireturn, 1) := by decide +kernel
theorem dX9_isLive_0 : decode cX9_isLive 0 = .ok (.iload_n 1, 1) := by decide +kernel
theorem dX9_isLive_1 : decode cX9_isLive 1 = .ok (.ifCond .le 24, 3) := by decide +kernel
theorem dX9_isLive_4 : decode cX9_isLive 4 = .ok (.iload_n 1, 1) := by decide +kernel
theorem dX9_isLive_5 : decode cX9_isLive 5 = .ok (.aload_n 0, 1) := by decide +kernel
theorem dX9_isLive_6 : decode cX9_isLive 6 = .ok (.getfield 115, 3) := by decide +kernel
theorem dX9_isLive_9 : decode cX9_isLive 9 = .ok (.if_icmp .gt 16, 3) := by decide +kernel
theorem dX9_isLive_12 : decode cX9_isLive 12 = .ok (.aload_n 0, 1) := by decide +kernel
theorem dX9_isLive_13 : decode cX9_isLive 13 = .ok (.getfield 20, 3) := by decide +kernel
theorem dX9_isLive_16 : decode cX9_isLive 16 = .ok (.iload_n 1, 1) := by decide +kernel
theorem dX9_isLive_17 : decode cX9_isLive 17 = .ok (.baload, 1) := by decide +kernel
theorem dX9_isLive_18 : decode cX9_isLive 18 = .ok (.ifCond .eq 7, 3) := by decide +kernel
theorem dX9_isLive_21 : decode cX9_isLive 21 = .ok (.iconst 1, 1) := by decide +kernel
theorem dX9_isLive_22 : decode cX9_isLive 22 = .ok (.goto 4, 3) := by decide +kernel
theorem dX9_isLive_25 : decode cX9_isLive 25 = .ok (.iconst 0, 1) := by decide +kernel
theorem dX9_isLive_26 : decode cX9_isLive 26 = .ok (.ireturn, 1) := by decide +kernel
theorem dX9_isWell_0 : decode cX9_isWell 0 = .ok (.iload_n 0, 1) := by decide +kernel
theorem dX9_isWell_1 : decode cX9_isWell 1 = .ok (.ifCond .lt 13, 3) := by decide +kernel
theorem dX9_isWell_4 : decode cX9_isWell 4 = .ok (.iload_n 0, 1) := by decide +kernel
theorem dX9_isWell_5 : decode cX9_isWell 5 = .ok (.bipush 48, 2) := by decide +kernel
theorem dX9_isWell_7 : decode cX9_isWell 7 = .ok (.if_icmp .ge 7, 3) := by decide +kernel
theorem dX9_isWell_10 : decode cX9_isWell 10 = .ok (.iconst 1, 1) := by decide +kernel
theorem dX9_isWell_11 : decode cX9_isWell 11 = .ok (.goto 4, 3) := by decide +kernel
theorem dX9_isWell_14 : decode cX9_isWell 14 = .ok (.iconst 0, 1) := by decide +kernel
theorem dX9_isWell_15 : decode cX9_isWell 15 = .ok (.ireturn, 1) := by decide +kernel
theorem dX9_liveVolume_0 : decode cX9_liveVolume 0 = .ok (.lconst 0, 1) := by decide +kernel
theorem dX9_liveVolume_1 : decode cX9_liveVolume 1 = .ok (.lstore_n 1, 1) := by decide +kernel
theorem dX9_liveVolume_2 : decode cX9_liveVolume 2 = .ok (.iconst 1, 1) := by decide +kernel
theorem dX9_liveVolume_3 : decode cX9_liveVolume 3 = .ok (.istore_n 3, 1) := by decide +kernel
theorem dX9_liveVolume_4 : decode cX9_liveVolume 4 = .ok (.iload_n 3, 1) := by decide +kernel
theorem dX9_liveVolume_5 : decode cX9_liveVolume 5 = .ok (.aload_n 0, 1) := by decide +kernel
theorem dX9_liveVolume_6 : decode cX9_liveVolume 6 = .ok (.getfield 115, 3) := by decide +kernel
theorem dX9_liveVolume_9 : decode cX9_liveVolume 9 = .ok (.if_icmp .gt 18, 3) := by decide +kernel
theorem dX9_liveVolume_12 : decode cX9_liveVolume 12 = .ok (.lload_n 1, 1) := by decide +kernel
theorem dX9_liveVolume_13 : decode cX9_liveVolume 13 = .ok (.aload_n 0, 1) := by decide +kernel
theorem dX9_liveVolume_14 : decode cX9_liveVolume 14 = .ok (.getfield 24, 3) := by decide +kernel
theorem dX9_liveVolume_17 : decode cX9_liveVolume 17 = .ok (.iload_n 3, 1) := by decide +kernel
theorem dX9_liveVolume_18 : decode cX9_liveVolume 18 = .ok (.laload, 1) := by decide +kernel
theorem dX9_liveVolume_19 : decode cX9_liveVolume 19 = .ok (.ladd, 1) := by decide +kernel
theorem dX9_liveVolume_20 : decode cX9_liveVolume 20 = .ok (.lstore_n 1, 1) := by decide +kernel
theorem dX9_liveVolume_21 : decode cX9_liveVolume 21 = .ok (.iinc 3 1, 3) := by decide +kernel
theorem dX9_liveVolume_24 : decode cX9_liveVolume 24 = .ok (.goto (-20), 3) := by decide +kernel
theorem dX9_liveVolume_27 : decode cX9_liveVolume 27 = .ok (.lload_n 1, 1) := by decide +kernel
theorem dX9_liveVolume_28 : decode cX9_liveVolume 28 = .ok (.lreturn, 1) := by decide +kernel
set_option maxRecDepth 20000 in
theorem ggX9_hasRoom_X9_lengthOf : GoodIn wsX9_hasRoom wsX9_lengthOf := goodIn_r _ [6] (by decide +kernel) (by decide +kernel)
set_option maxRecDepth 20000 in
theorem gX9_hasRoom_X9_lengthOf : GoodIn wsX9_hasRoom (va_wsS RX9 67 yX9_lengthOf wsX9_lengthOf) := goodIn_app (goodIn_of _ (by decide +kernel)) ggX9_hasRoom_X9_lengthOf
theorem dX9_hasRoom_0 : decode cX9_hasRoom 0 = .ok (.aload_n 0, 1) := by decide +kernel
theorem dX9_hasRoom_1 : decode cX9_hasRoom 1 = .ok (.getfield 103, 3) := by decide +kernel
theorem dX9_hasRoom_4 : decode cX9_hasRoom 4 = .ok (.iload_n 1, 1) := by decide +kernel
theorem dX9_hasRoom_5 : decode cX9_hasRoom 5 = .ok (.invokestatic 67, 3) := by decide +kernel
theorem dX9_hasRoom_8 : decode cX9_hasRoom 8 = .ok (.iadd, 1) := by decide +kernel
theorem dX9_hasRoom_9 : decode cX9_hasRoom 9 = .ok (.aload_n 0, 1) := by decide +kernel
theorem dX9_hasRoom_10 : decode cX9_hasRoom 10 = .ok (.getfield 35, 3) := by decide +kernel
theorem dX9_hasRoom_13 : decode cX9_hasRoom 13 = .ok (.if_icmp .gt 7, 3) := by decide +kernel
theorem dX9_hasRoom_16 : decode cX9_hasRoom 16 = .ok (.iconst 1, 1) := by decide +kernel
theorem dX9_hasRoom_17 : decode cX9_hasRoom 17 = .ok (.goto 4, 3) := by decide +kernel
theorem dX9_hasRoom_20 : decode cX9_hasRoom 20 = .ok (.iconst 0, 1) := by decide +kernel
theorem dX9_hasRoom_21 : decode cX9_hasRoom 21 = .ok (.ireturn, 1) := by decide +kernel
set_option maxRecDepth 20000 in
theorem ggX9_acts_X9_checked : GoodIn wsX9_acts wsX9_checked := goodIn_r _ [7, 8, 9, 10, 11, 6, 12, 13, 14, 15, 16, 17, 18, 19, 20, 21, 22, 23, 24, 25, 72, 73, 74, 75, 76, 77, 78, 79, 80, 81, 82, 83, 84, 85, 86, 87, 88, 89, 90, 91] (by decide +kernel) (by decide +kernel)
set_option maxRecDepth 20000 in
theorem gX9_acts_X9_checked : GoodIn wsX9_acts (wsV RX9 130 RX9 yX9_checked wsX9_checked) := goodIn_app (goodIn_of _ (by decide +kernel)) ggX9_acts_X9_checked
set_option maxRecDepth 20000 in
theorem ggX9_acts_X9_writeRow : GoodIn wsX9_acts wsX9_writeRow := goodIn_r _ [29, 9, 8, 30, 31, 32, 6, 33, 34, 35, 36, 37, 38, 39, 40, 41, 42, 72, 73, 74, 75, 76, 77, 78, 79, 80, 81, 82, 83, 84, 85, 86, 87, 88, 89, 90, 91] (by decide +kernel) (by decide +kernel)
set_option maxRecDepth 20000 in
theorem gX9_acts_X9_writeRow : GoodIn wsX9_acts (wsV RX9 133 RX9 yX9_writeRow wsX9_writeRow) := goodIn_app (goodIn_of _ (by decide +kernel)) ggX9_acts_X9_writeRow
set_option maxRecDepth 20000 in
theorem ggX9_acts_X9_reads : GoodIn wsX9_acts wsX9_reads := goodIn_r _ [46, 35, 1, 47, 48, 49, 2, 50, 51, 52, 53, 54, 6, 55, 56, 57, 58, 59, 10, 11, 12, 13, 60, 61, 62, 63, 64, 65, 66, 67, 68, 69, 70, 71, 72, 73, 74, 75, 76, 77, 78, 79, 80, 81, 82, 83, 84, 85, 86, 87, 88, 89, 90, 91] (by decide +kernel) (by decide +kernel)
set_option maxRecDepth 20000 in
theorem gX9_acts_X9_reads : GoodIn wsX9_acts (wsV RX9 57 RX9 yX9_reads wsX9_reads) := goodIn_app (goodIn_of _ (by decide +kernel)) ggX9_acts_X9_reads
theorem dX9_acts_0 : decode cX9_acts 0 = .ok (.aload_n 0, 1) := by decide +kernel
theorem dX9_acts_1 : decode cX9_acts 1 = .ok (.invokevirtual 130, 3) := by decide +kernel
theorem dX9_acts_4 : decode cX9_acts 4 = .ok (.aload_n 0, 1) := by decide +kernel
theorem dX9_acts_5 : decode cX9_acts 5 = .ok (.aload_n 0, 1) := by decide +kernel
theorem dX9_acts_6 : decode cX9_acts 6 = .ok (.getfield 100, 3) := by decide +kernel
theorem dX9_acts_9 : decode cX9_acts 9 = .ok (.aload_n 0, 1) := by decide +kernel
theorem dX9_acts_10 : decode cX9_acts 10 = .ok (.getfield 103, 3) := by decide +kernel
theorem dX9_acts_13 : decode cX9_acts 13 = .ok (.invokevirtual 133, 3) := by decide +kernel
theorem dX9_acts_16 : decode cX9_acts 16 = .ok (.ifCond .ne 5, 3) := by decide +kernel
theorem dX9_acts_19 : decode cX9_acts 19 = .ok (.iconst 0, 1) := by decide +kernel
theorem dX9_acts_20 : decode cX9_acts 20 = .ok (.ireturn, 1) := by decide +kernel
theorem dX9_acts_21 : decode cX9_acts 21 = .ok (.aload_n 0, 1) := by decide +kernel
theorem dX9_acts_22 : decode cX9_acts 22 = .ok (.invokevirtual 57, 3) := by decide +kernel
theorem dX9_acts_25 : decode cX9_acts 25 = .ok (.iconst 1, 1) := by decide +kernel
theorem dX9_acts_26 : decode cX9_acts 26 = .ok (.ireturn, 1) := by decide +kernel
set_option maxRecDepth 20000 in
theorem ggX9_register_X9_isWell : GoodIn wsX9_register wsX9_isWell := goodIn_r _ [8] (by decide +kernel) (by decide +kernel)
set_option maxRecDepth 20000 in
theorem gX9_register_X9_isWell : GoodIn wsX9_register (va_wsS RX9 137 yX9_isWell wsX9_isWell) := goodIn_app (goodIn_of _ (by decide +kernel)) ggX9_register_X9_isWell
set_option maxRecDepth 20000 in
theorem ggX9_register_X9_liveIn : GoodIn wsX9_register wsX9_liveIn := goodIn_r _ [12, 4, 13, 14, 103, 104, 105, 106, 107, 108, 109, 110, 111, 112, 113, 114, 115, 116, 117, 118, 119, 120, 121, 122] (by decide +kernel) (by decide +kernel)
set_option maxRecDepth 20000 in
theorem gX9_register_X9_liveIn : GoodIn wsX9_register (wsV RX9 140 RX9 yX9_liveIn wsX9_liveIn) := goodIn_app (goodIn_of _ (by decide +kernel)) ggX9_register_X9_liveIn
set_option maxRecDepth 20000 in
theorem ggX9_register_X9_liveVolume : GoodIn wsX9_register wsX9_liveVolume := goodIn_r _ [18, 4, 19, 103, 104, 105, 106, 107, 108, 109, 110, 111, 112, 113, 114, 115, 116, 117, 118, 119, 120, 121, 122] (by decide +kernel) (by decide +kernel)
set_option maxRecDepth 20000 in
theorem gX9_register_X9_liveVolume : GoodIn wsX9_register (wsV RX9 143 RX9 yX9_liveVolume wsX9_liveVolume) := goodIn_app (goodIn_of _ (by decide +kernel)) ggX9_register_X9_liveVolume
set_option maxRecDepth 20000 in
theorem ggX9_register_X9_hasRoom : GoodIn wsX9_register wsX9_hasRoom := goodIn_r _ [23, 24, 25, 26, 27, 7, 28, 103, 104, 105, 106, 107, 108, 109, 110, 111, 112, 113, 114, 115, 116, 117, 118, 119, 120, 121, 122] (by decide +kernel) (by decide +kernel)
set_option maxRecDepth 20000 in
theorem gX9_register_X9_hasRoom : GoodIn wsX9_register (wsV RX9 151 RX9 yX9_hasRoom wsX9_hasRoom) := goodIn_app (goodIn_of _ (by decide +kernel)) ggX9_register_X9_hasRoom
set_option maxRecDepth 20000 in
theorem ggX9_register_X9_begin : GoodIn wsX9_register wsX9_begin := goodIn_r _ [32, 33, 26, 27, 7, 28, 34, 35, 36, 37, 38, 39, 40, 41, 42, 103, 104, 105, 106, 107, 108, 109, 110, 111, 112, 113, 114, 115, 116, 117, 118, 119, 120, 121, 122] (by decide +kernel) (by decide +kernel)
set_option maxRecDepth 20000 in
theorem gX9_register_X9_begin : GoodIn wsX9_register (wsV RX9 154 RX9 yX9_begin wsX9_begin) := goodIn_app (goodIn_of _ (by decide +kernel)) ggX9_register_X9_begin
set_option maxRecDepth 20000 in
theorem ggX9_register_X9_u1 : GoodIn wsX9_register wsX9_u1 := goodIn_r _ [41, 42, 33, 103, 104, 105, 106, 107, 108, 109, 110, 111, 112, 113, 114, 115, 116, 117, 118, 119, 120, 121, 122] (by decide +kernel) (by decide +kernel)
set_option maxRecDepth 20000 in
theorem gX9_register_X9_u1 : GoodIn wsX9_register (wsV RX9 54 RX9 yX9_u1 wsX9_u1) := goodIn_app (goodIn_of _ (by decide +kernel)) ggX9_register_X9_u1
set_option maxRecDepth 20000 in
theorem ggX9_register_X9_u8 : GoodIn wsX9_register wsX9_u8 := goodIn_r _ [46, 47, 48, 49, 7, 50, 34, 35, 36, 37, 38, 39, 40, 41, 42, 33, 103, 104, 105, 106, 107, 108, 109, 110, 111, 112, 113, 114, 115, 116, 117, 118, 119, 120, 121, 122] (by decide +kernel) (by decide +kernel)
set_option maxRecDepth 20000 in
theorem gX9_register_X9_u8 : GoodIn wsX9_register (wsV RX9 157 RX9 yX9_u8 wsX9_u8) := goodIn_app (goodIn_of _ (by decide +kernel)) ggX9_register_X9_u8
set_option maxRecDepth 20000 in
theorem ggX9_register_X9_acts : GoodIn wsX9_register wsX9_acts := goodIn_r _ [54, 55, 24, 56, 57, 58, 7, 59, 42, 33, 60, 61, 62, 63, 47, 48, 49, 50, 34, 35, 36, 37, 38, 39, 40, 41, 64, 65, 66, 67, 68, 69, 70, 71, 72, 73, 74, 75, 76, 77, 78, 1, 79, 80, 81, 82, 83, 84, 85, 86, 4, 2, 87, 88, 89, 90, 25, 91, 92, 93, 94, 95, 96, 97, 19, 14, 13, 98, 99, 100, 101, 102, 103, 104, 105, 106, 107, 108, 109, 110, 111, 112, 113, 114, 115, 116, 117, 118, 119, 120, 121, 122] (by decide +kernel) (by decide +kernel)
set_option maxRecDepth 20000 in
theorem gX9_register_X9_acts : GoodIn wsX9_register (wsV RX9 161 RX9 yX9_acts wsX9_acts) := goodIn_app (goodIn_of _ (by decide +kernel)) ggX9_register_X9_acts
theorem dX9_register_0 : decode cX9_register 0 = .ok (.aload_n 0, 1) := by decide +kernel
theorem dX9_register_1 : decode cX9_register 1 = .ok (.getfield 77, 3) := by decide +kernel
theorem dX9_register_4 : decode cX9_register 4 = .ok (.ifCond .eq 5, 3) := by decide +kernel
theorem dX9_register_7 : decode cX9_register 7 = .ok (.iconst (-1), 1) := by decide +kernel
theorem dX9_register_8 : decode cX9_register 8 = .ok (.ireturn, 1) := by decide +kernel
theorem dX9_register_9 : decode cX9_register 9 = .ok (.iload_n 1, 1) := by decide +kernel
theorem dX9_register_10 : decode cX9_register 10 = .ok (.invokestatic 137, 3) := by decide +kernel
theorem dX9_register_13 : decode cX9_register 13 = .ok (.ifCond .ne 6, 3) := by decide +kernel
theorem dX9_register_16 : decode cX9_register 16 = .ok (.bipush (-2), 2) := by decide +kernel
theorem dX9_register_18 : decode cX9_register 18 = .ok (.ireturn, 1) := by decide +kernel
theorem dX9_register_19 : decode cX9_register 19 = .ok (.aload_n 0, 1) := by decide +kernel
theorem dX9_register_20 : decode cX9_register 20 = .ok (.iload_n 1, 1) := by decide +kernel
theorem dX9_register_21 : decode cX9_register 21 = .ok (.invokevirtual 140, 3) := by decide +kernel
theorem dX9_register_24 : decode cX9_register 24 = .ok (.iconst (-1), 1) := by decide +kernel
theorem dX9_register_25 : decode cX9_register 25 = .ok (.if_icmp .eq 6, 3) := by decide +kernel
theorem dX9_register_28 : decode cX9_register 28 = .ok (.bipush (-3), 2) := by decide +kernel
theorem dX9_register_30 : decode cX9_register 30 = .ok (.ireturn, 1) := by decide +kernel
theorem dX9_register_31 : decode cX9_register 31 = .ok (.lload_n 2, 1) := by decide +kernel
theorem dX9_register_32 : decode cX9_register 32 = .ok (.lconst 1, 1) := by decide +kernel
theorem dX9_register_33 : decode cX9_register 33 = .ok (.lcmp, 1) := by decide +kernel
theorem dX9_register_34 : decode cX9_register 34 = .ok (.ifCond .lt 21, 3) := by decide +kernel
theorem dX9_register_37 : decode cX9_register 37 = .ok (.aload_n 0, 1) := by decide +kernel
theorem dX9_register_38 : decode cX9_register 38 = .ok (.invokevirtual 143, 3) := by decide +kernel
theorem dX9_register_41 : decode cX9_register 41 = .ok (.aload_n 0, 1) := by decide +kernel
theorem dX9_register_42 : decode cX9_register 42 = .ok (.getfield 118, 3) := by decide +kernel
theorem dX9_register_45 : decode cX9_register 45 = .ok (.ladd, 1) := by decide +kernel
theorem dX9_register_46 : decode cX9_register 46 = .ok (.ldc2_w 149, 3) := by decide +kernel
theorem dX9_register_49 : decode cX9_register 49 = .ok (.lload_n 2, 1) := by decide +kernel
theorem dX9_register_50 : decode cX9_register 50 = .ok (.lsub, 1) := by decide +kernel
theorem dX9_register_51 : decode cX9_register 51 = .ok (.lcmp, 1) := by decide +kernel
theorem dX9_register_52 : decode cX9_register 52 = .ok (.ifCond .le 6, 3) := by decide +kernel
theorem dX9_register_55 : decode cX9_register 55 = .ok (.bipush (-4), 2) := by decide +kernel
theorem dX9_register_57 : decode cX9_register 57 = .ok (.ireturn, 1) := by decide +kernel
theorem dX9_register_58 : decode cX9_register 58 = .ok (.aload_n 0, 1) := by decide +kernel
theorem dX9_register_59 : decode cX9_register 59 = .ok (.getfield 115, 3) := by decide +kernel
theorem dX9_register_62 : decode cX9_register 62 = .ok (.bipush 120, 2) := by decide +kernel
theorem dX9_register_64 : decode cX9_register 64 = .ok (.if_icmp .ne 6, 3) := by decide +kernel
theorem dX9_register_67 : decode cX9_register 67 = .ok (.bipush (-5), 2) := by decide +kernel
theorem dX9_register_69 : decode cX9_register 69 = .ok (.ireturn, 1) := by decide +kernel
theorem dX9_register_70 : decode cX9_register 70 = .ok (.aload_n 0, 1) := by decide +kernel
theorem dX9_register_71 : decode cX9_register 71 = .ok (.iconst 1, 1) := by decide +kernel
theorem dX9_register_72 : decode cX9_register 72 = .ok (.invokevirtual 151, 3) := by decide +kernel
theorem dX9_register_75 : decode cX9_register 75 = .ok (.ifCond .ne 6, 3) := by decide +kernel
theorem dX9_register_78 : decode cX9_register 78 = .ok (.bipush (-6), 2) := by decide +kernel
theorem dX9_register_80 : decode cX9_register 80 = .ok (.ireturn, 1) := by decide +kernel
theorem dX9_register_81 : decode cX9_register 81 = .ok (.aload_n 0, 1) := by decide +kernel
theorem dX9_register_82 : decode cX9_register 82 = .ok (.iconst 1, 1) := by decide +kernel
theorem dX9_register_83 : decode cX9_register 83 = .ok (.invokevirtual 154, 3) := by decide +kernel
theorem dX9_register_86 : decode cX9_register 86 = .ok (.aload_n 0, 1) := by decide +kernel
theorem dX9_register_87 : decode cX9_register 87 = .ok (.iload_n 1, 1) := by decide +kernel
theorem dX9_register_88 : decode cX9_register 88 = .ok (.invokevirtual 54, 3) := by decide +kernel
theorem dX9_register_91 : decode cX9_register 91 = .ok (.aload_n 0, 1) := by decide +kernel
theorem dX9_register_92 : decode cX9_register 92 = .ok (.lload_n 2, 1) := by decide +kernel
theorem dX9_register_93 : decode cX9_register 93 = .ok (.invokevirtual 157, 3) := by decide +kernel
theorem dX9_register_96 : decode cX9_register 96 = .ok (.aload_n 0, 1) := by decide +kernel
theorem dX9_register_97 : decode cX9_register 97 = .ok (.invokevirtual 161, 3) := by decide +kernel
theorem dX9_register_100 : decode cX9_register 100 = .ok (.ifCond .eq 10, 3) := by decide +kernel
theorem dX9_register_103 : decode cX9_register 103 = .ok (.aload_n 0, 1) := by decide +kernel
theorem dX9_register_104 : decode cX9_register 104 = .ok (.getfield 115, 3) := by decide +kernel
theorem dX9_register_107 : decode cX9_register 107 = .ok (.goto 4, 3) := by decide +kernel
theorem dX9_register_110 : decode cX9_register 110 = .ok (.iconst (-1), 1) := by decide +kernel
theorem dX9_register_111 : decode cX9_register 111 = .ok (.ireturn, 1) := by decide +kernel
set_option maxRecDepth 20000 in
theorem ggX9_aliquot_X9_isLive : GoodIn wsX9_aliquot wsX9_isLive := goodIn_r _ [8, 3, 9, 102, 103, 104, 105, 106, 107, 108, 109, 110, 111, 112, 113, 114, 115, 116, 117, 118, 119, 120, 121] (by decide +kernel) (by decide +kernel)
set_option maxRecDepth 20000 in
theorem gX9_aliquot_X9_isLive : GoodIn wsX9_aliquot (wsV RX9 165 RX9 yX9_isLive wsX9_isLive) := goodIn_app (goodIn_of _ (by decide +kernel)) ggX9_aliquot_X9_isLive
set_option maxRecDepth 20000 in
theorem ggX9_aliquot_X9_isWell : GoodIn wsX9_aliquot wsX9_isWell := goodIn_r _ [12] (by decide +kernel) (by decide +kernel)
set_option maxRecDepth 20000 in
theorem gX9_aliquot_X9_isWell : GoodIn wsX9_aliquot (va_wsS RX9 137 yX9_isWell wsX9_isWell) := goodIn_app (goodIn_of _ (by decide +kernel)) ggX9_aliquot_X9_isWell
set_option maxRecDepth 20000 in
theorem ggX9_aliquot_X9_liveIn : GoodIn wsX9_aliquot wsX9_liveIn := goodIn_r _ [16, 3, 9, 17, 102, 103, 104, 105, 106, 107, 108, 109, 110, 111, 112, 113, 114, 115, 116, 117, 118, 119, 120, 121] (by decide +kernel) (by decide +kernel)
set_option maxRecDepth 20000 in
theorem gX9_aliquot_X9_liveIn : GoodIn wsX9_aliquot (wsV RX9 140 RX9 yX9_liveIn wsX9_liveIn) := goodIn_app (goodIn_of _ (by decide +kernel)) ggX9_aliquot_X9_liveIn
set_option maxRecDepth 20000 in
theorem ggX9_aliquot_X9_hasRoom : GoodIn wsX9_aliquot wsX9_hasRoom := goodIn_r _ [21, 22, 23, 24, 25, 7, 26, 102, 103, 104, 105, 106, 107, 108, 109, 110, 111, 112, 113, 114, 115, 116, 117, 118, 119, 120, 121] (by decide +kernel) (by decide +kernel)
set_option maxRecDepth 20000 in
theorem gX9_aliquot_X9_hasRoom : GoodIn wsX9_aliquot (wsV RX9 151 RX9 yX9_hasRoom wsX9_hasRoom) := goodIn_app (goodIn_of _ (by decide +kernel)) ggX9_aliquot_X9_hasRoom
set_option maxRecDepth 20000 in
theorem ggX9_aliquot_X9_begin : GoodIn wsX9_aliquot wsX9_begin := goodIn_r _ [30, 31, 24, 25, 7, 26, 32, 33, 34, 35, 36, 37, 38, 39, 40, 102, 103, 104, 105, 106, 107, 108, 109, 110, 111, 112, 113, 114, 115, 116, 117, 118, 119, 120, 121] (by decide +kernel) (by decide +kernel)
set_option maxRecDepth 20000 in
theorem gX9_aliquot_X9_begin : GoodIn wsX9_aliquot (wsV RX9 154 RX9 yX9_begin wsX9_begin) := goodIn_app (goodIn_of _ (by decide +kernel)) ggX9_aliquot_X9_begin
set_option maxRecDepth 20000 in
theorem ggX9_aliquot_X9_u2 : GoodIn wsX9_aliquot wsX9_u2 := goodIn_r _ [35, 36, 37, 38, 7, 39, 40, 31, 102, 103, 104, 105, 106, 107, 108, 109, 110, 111, 112, 113, 114, 115, 116, 117, 118, 119, 120, 121] (by decide +kernel) (by decide +kernel)
set_option maxRecDepth 20000 in
theorem gX9_aliquot_X9_u2 : GoodIn wsX9_aliquot (wsV RX9 63 RX9 yX9_u2 wsX9_u2) := goodIn_app (goodIn_of _ (by decide +kernel)) ggX9_aliquot_X9_u2
set_option maxRecDepth 20000 in
theorem ggX9_aliquot_X9_u1 : GoodIn wsX9_aliquot wsX9_u1 := goodIn_r _ [39, 40, 31, 102, 103, 104, 105, 106, 107, 108, 109, 110, 111, 112, 113, 114, 115, 116, 117, 118, 119, 120, 121] (by decide +kernel) (by decide +kernel)
set_option maxRecDepth 20000 in
theorem gX9_aliquot_X9_u1 : GoodIn wsX9_aliquot (wsV RX9 54 RX9 yX9_u1 wsX9_u1) := goodIn_app (goodIn_of _ (by decide +kernel)) ggX9_aliquot_X9_u1
set_option maxRecDepth 20000 in
theorem ggX9_aliquot_X9_u8 : GoodIn wsX9_aliquot wsX9_u8 := goodIn_r _ [44, 45, 46, 47, 7, 48, 32, 33, 34, 35, 36, 37, 38, 39, 40, 31, 102, 103, 104, 105, 106, 107, 108, 109, 110, 111, 112, 113, 114, 115, 116, 117, 118, 119, 120, 121] (by decide +kernel) (by decide +kernel)
set_option maxRecDepth 20000 in
theorem gX9_aliquot_X9_u8 : GoodIn wsX9_aliquot (wsV RX9 157 RX9 yX9_u8 wsX9_u8) := goodIn_app (goodIn_of _ (by decide +kernel)) ggX9_aliquot_X9_u8
set_option maxRecDepth 20000 in
theorem ggX9_aliquot_X9_acts : GoodIn wsX9_aliquot wsX9_acts := goodIn_r _ [52, 53, 22, 54, 55, 56, 7, 57, 40, 31, 58, 59, 60, 61, 45, 46, 47, 48, 32, 33, 34, 35, 36, 37, 38, 39, 62, 63, 64, 65, 66, 67, 68, 69, 70, 71, 72, 73, 74, 75, 76, 1, 77, 78, 79, 80, 81, 82, 83, 84, 3, 85, 86, 87, 88, 89, 23, 90, 91, 92, 93, 94, 95, 96, 2, 17, 9, 97, 98, 99, 100, 101, 102, 103, 104, 105, 106, 107, 108, 109, 110, 111, 112, 113, 114, 115, 116, 117, 118, 119, 120, 121] (by decide +kernel) (by decide +kernel)
set_option maxRecDepth 20000 in
theorem gX9_aliquot_X9_acts : GoodIn wsX9_aliquot (wsV RX9 161 RX9 yX9_acts wsX9_acts) := goodIn_app (goodIn_of _ (by decide +kernel)) ggX9_aliquot_X9_acts
theorem dX9_aliquot_0 : decode cX9_aliquot 0 = .ok (.aload_n 0, 1) := by decide +kernel
theorem dX9_aliquot_1 : decode cX9_aliquot 1 = .ok (.getfield 77, 3) := by decide +kernel
theorem dX9_aliquot_4 : decode cX9_aliquot 4 = .ok (.ifCond .eq 5, 3) := by decide +kernel
theorem dX9_aliquot_7 : decode cX9_aliquot 7 = .ok (.iconst (-1), 1) := by decide +kernel
theorem dX9_aliquot_8 : decode cX9_aliquot 8 = .ok (.ireturn, 1) := by decide +kernel
theorem dX9_aliquot_9 : decode cX9_aliquot 9 = .ok (.aload_n 0, 1) := by decide +kernel
theorem dX9_aliquot_10 : decode cX9_aliquot 10 = .ok (.iload_n 1, 1) := by decide +kernel
theorem dX9_aliquot_11 : decode cX9_aliquot 11 = .ok (.invokevirtual 165, 3) := by decide +kernel
theorem dX9_aliquot_14 : decode cX9_aliquot 14 = .ok (.ifCond .eq 10, 3) := by decide +kernel
theorem dX9_aliquot_17 : decode cX9_aliquot 17 = .ok (.iload_n 2, 1) := by decide +kernel
theorem dX9_aliquot_18 : decode cX9_aliquot 18 = .ok (.invokestatic 137, 3) := by decide +kernel
theorem dX9_aliquot_21 : decode cX9_aliquot 21 = .ok (.ifCond .ne 6, 3) := by decide +kernel
theorem dX9_aliquot_24 : decode cX9_aliquot 24 = .ok (.bipush (-2), 2) := by decide +kernel
theorem dX9_aliquot_26 : decode cX9_aliquot 26 = .ok (.ireturn, 1) := by decide +kernel
theorem dX9_aliquot_27 : decode cX9_aliquot 27 = .ok (.aload_n 0, 1) := by decide +kernel
theorem dX9_aliquot_28 : decode cX9_aliquot 28 = .ok (.iload_n 2, 1) := by decide +kernel
theorem dX9_aliquot_29 : decode cX9_aliquot 29 = .ok (.invokevirtual 140, 3) := by decide +kernel
theorem dX9_aliquot_32 : decode cX9_aliquot 32 = .ok (.iconst (-1), 1) := by decide +kernel
theorem dX9_aliquot_33 : decode cX9_aliquot 33 = .ok (.if_icmp .eq 6, 3) := by decide +kernel
theorem dX9_aliquot_36 : decode cX9_aliquot 36 = .ok (.bipush (-3), 2) := by decide +kernel
theorem dX9_aliquot_38 : decode cX9_aliquot 38 = .ok (.ireturn, 1) := by decide +kernel
theorem dX9_aliquot_39 : decode cX9_aliquot 39 = .ok (.lload_n 3, 1) := by decide +kernel
theorem dX9_aliquot_40 : decode cX9_aliquot 40 = .ok (.lconst 1, 1) := by decide +kernel
theorem dX9_aliquot_41 : decode cX9_aliquot 41 = .ok (.lcmp, 1) := by decide +kernel
theorem dX9_aliquot_42 : decode cX9_aliquot 42 = .ok (.ifCond .lt 14, 3) := by decide +kernel
theorem dX9_aliquot_45 : decode cX9_aliquot 45 = .ok (.lload_n 3, 1) := by decide +kernel
theorem dX9_aliquot_46 : decode cX9_aliquot 46 = .ok (.aload_n 0, 1) := by decide +kernel
theorem dX9_aliquot_47 : decode cX9_aliquot 47 = .ok (.getfield 24, 3) := by decide +kernel
theorem dX9_aliquot_50 : decode cX9_aliquot 50 = .ok (.iload_n 1, 1) := by decide +kernel
theorem dX9_aliquot_51 : decode cX9_aliquot 51 = .ok (.laload, 1) := by decide +kernel
theorem dX9_aliquot_52 : decode cX9_aliquot 52 = .ok (.lcmp, 1) := by decide +kernel
theorem dX9_aliquot_53 : decode cX9_aliquot 53 = .ok (.ifCond .le 6, 3) := by decide +kernel
theorem dX9_aliquot_56 : decode cX9_aliquot 56 = .ok (.bipush (-4), 2) := by decide +kernel
theorem dX9_aliquot_58 : decode cX9_aliquot 58 = .ok (.ireturn, 1) := by decide +kernel
theorem dX9_aliquot_59 : decode cX9_aliquot 59 = .ok (.aload_n 0, 1) := by decide +kernel
theorem dX9_aliquot_60 : decode cX9_aliquot 60 = .ok (.getfield 115, 3) := by decide +kernel
theorem dX9_aliquot_63 : decode cX9_aliquot 63 = .ok (.bipush 120, 2) := by decide +kernel
theorem dX9_aliquot_65 : decode cX9_aliquot 65 = .ok (.if_icmp .ne 6, 3) := by decide +kernel
theorem dX9_aliquot_68 : decode cX9_aliquot 68 = .ok (.bipush (-5), 2) := by decide +kernel
theorem dX9_aliquot_70 : decode cX9_aliquot 70 = .ok (.ireturn, 1) := by decide +kernel
theorem dX9_aliquot_71 : decode cX9_aliquot 71 = .ok (.aload_n 0, 1) := by decide +kernel
theorem dX9_aliquot_72 : decode cX9_aliquot 72 = .ok (.iconst 2, 1) := by decide +kernel
theorem dX9_aliquot_73 : decode cX9_aliquot 73 = .ok (.invokevirtual 151, 3) := by decide +kernel
theorem dX9_aliquot_76 : decode cX9_aliquot 76 = .ok (.ifCond .ne 6, 3) := by decide +kernel
theorem dX9_aliquot_79 : decode cX9_aliquot 79 = .ok (.bipush (-6), 2) := by decide +kernel
theorem dX9_aliquot_81 : decode cX9_aliquot 81 = .ok (.ireturn, 1) := by decide +kernel
theorem dX9_aliquot_82 : decode cX9_aliquot 82 = .ok (.aload_n 0, 1) := by decide +kernel
theorem dX9_aliquot_83 : decode cX9_aliquot 83 = .ok (.iconst 2, 1) := by decide +kernel
theorem dX9_aliquot_84 : decode cX9_aliquot 84 = .ok (.invokevirtual 154, 3) := by decide +kernel
theorem dX9_aliquot_87 : decode cX9_aliquot 87 = .ok (.aload_n 0, 1) := by decide +kernel
theorem dX9_aliquot_88 : decode cX9_aliquot 88 = .ok (.iload_n 1, 1) := by decide +kernel
theorem dX9_aliquot_89 : decode cX9_aliquot 89 = .ok (.invokevirtual 63, 3) := by decide +kernel
theorem dX9_aliquot_92 : decode cX9_aliquot 92 = .ok (.aload_n 0, 1) := by decide +kernel
theorem dX9_aliquot_93 : decode cX9_aliquot 93 = .ok (.iload_n 2, 1) := by decide +kernel
theorem dX9_aliquot_94 : decode cX9_aliquot 94 = .ok (.invokevirtual 54, 3) := by decide +kernel
theorem dX9_aliquot_97 : decode cX9_aliquot 97 = .ok (.aload_n 0, 1) := by decide +kernel
theorem dX9_aliquot_98 : decode cX9_aliquot 98 = .ok (.lload_n 3, 1) := by decide +kernel
theorem dX9_aliquot_99 : decode cX9_aliquot 99 = .ok (.invokevirtual 157, 3) := by decide +kernel
theorem dX9_aliquot_102 : decode cX9_aliquot 102 = .ok (.aload_n 0, 1) := by decide +kernel
theorem dX9_aliquot_103 : decode cX9_aliquot 103 = .ok (.invokevirtual 161, 3) := by decide +kernel
theorem dX9_aliquot_106 : decode cX9_aliquot 106 = .ok (.ifCond .eq 10, 3) := by decide +kernel
theorem dX9_aliquot_109 : decode cX9_aliquot 109 = .ok (.aload_n 0, 1) := by decide +kernel
theorem dX9_aliquot_110 : decode cX9_aliquot 110 = .ok (.getfield 115, 3) := by decide +kernel
theorem dX9_aliquot_113 : decode cX9_aliquot 113 = .ok (.goto 4, 3) := by decide +kernel
theorem dX9_aliquot_116 : decode cX9_aliquot 116 = .ok (.iconst (-1), 1) := by decide +kernel
theorem dX9_aliquot_117 : decode cX9_aliquot 117 = .ok (.ireturn, 1) := by decide +kernel
set_option maxRecDepth 20000 in
theorem ggX9_move_X9_isLive : GoodIn wsX9_move wsX9_isLive := goodIn_r _ [6, 7, 8, 98, 99, 100, 101, 102, 103, 104, 105, 106, 107, 108, 109, 110, 111, 112, 113, 114, 115, 116, 117] (by decide +kernel) (by decide +kernel)
set_option maxRecDepth 20000 in
theorem gX9_move_X9_isLive : GoodIn wsX9_move (wsV RX9 165 RX9 yX9_isLive wsX9_isLive) := goodIn_app (goodIn_of _ (by decide +kernel)) ggX9_move_X9_isLive
set_option maxRecDepth 20000 in
theorem ggX9_move_X9_isWell : GoodIn wsX9_move wsX9_isWell := goodIn_r _ [11] (by decide +kernel) (by decide +kernel)
set_option maxRecDepth 20000 in
theorem gX9_move_X9_isWell : GoodIn wsX9_move (va_wsS RX9 137 yX9_isWell wsX9_isWell) := goodIn_app (goodIn_of _ (by decide +kernel)) ggX9_move_X9_isWell
set_option maxRecDepth 20000 in
theorem ggX9_move_X9_liveIn : GoodIn wsX9_move wsX9_liveIn := goodIn_r _ [15, 7, 8, 16, 98, 99, 100, 101, 102, 103, 104, 105, 106, 107, 108, 109, 110, 111, 112, 113, 114, 115, 116, 117] (by decide +kernel) (by decide +kernel)
set_option maxRecDepth 20000 in
theorem gX9_move_X9_liveIn : GoodIn wsX9_move (wsV RX9 140 RX9 yX9_liveIn wsX9_liveIn) := goodIn_app (goodIn_of _ (by decide +kernel)) ggX9_move_X9_liveIn
set_option maxRecDepth 20000 in
theorem ggX9_move_X9_hasRoom : GoodIn wsX9_move wsX9_hasRoom := goodIn_r _ [20, 21, 22, 23, 24, 5, 25, 98, 99, 100, 101, 102, 103, 104, 105, 106, 107, 108, 109, 110, 111, 112, 113, 114, 115, 116, 117] (by decide +kernel) (by decide +kernel)
set_option maxRecDepth 20000 in
theorem gX9_move_X9_hasRoom : GoodIn wsX9_move (wsV RX9 151 RX9 yX9_hasRoom wsX9_hasRoom) := goodIn_app (goodIn_of _ (by decide +kernel)) ggX9_move_X9_hasRoom
set_option maxRecDepth 20000 in
theorem ggX9_move_X9_begin : GoodIn wsX9_move wsX9_begin := goodIn_r _ [29, 30, 23, 24, 5, 25, 31, 32, 33, 34, 35, 36, 37, 38, 39, 98, 99, 100, 101, 102, 103, 104, 105, 106, 107, 108, 109, 110, 111, 112, 113, 114, 115, 116, 117] (by decide +kernel) (by decide +kernel)
set_option maxRecDepth 20000 in
theorem gX9_move_X9_begin : GoodIn wsX9_move (wsV RX9 154 RX9 yX9_begin wsX9_begin) := goodIn_app (goodIn_of _ (by decide +kernel)) ggX9_move_X9_begin
set_option maxRecDepth 20000 in
theorem ggX9_move_X9_u2 : GoodIn wsX9_move wsX9_u2 := goodIn_r _ [34, 35, 36, 37, 5, 38, 39, 30, 98, 99, 100, 101, 102, 103, 104, 105, 106, 107, 108, 109, 110, 111, 112, 113, 114, 115, 116, 117] (by decide +kernel) (by decide +kernel)
set_option maxRecDepth 20000 in
theorem gX9_move_X9_u2 : GoodIn wsX9_move (wsV RX9 63 RX9 yX9_u2 wsX9_u2) := goodIn_app (goodIn_of _ (by decide +kernel)) ggX9_move_X9_u2
set_option maxRecDepth 20000 in
theorem ggX9_move_X9_u1 : GoodIn wsX9_move wsX9_u1 := goodIn_r _ [38, 39, 30, 98, 99, 100, 101, 102, 103, 104, 105, 106, 107, 108, 109, 110, 111, 112, 113, 114, 115, 116, 117] (by decide +kernel) (by decide +kernel)
set_option maxRecDepth 20000 in
theorem gX9_move_X9_u1 : GoodIn wsX9_move (wsV RX9 54 RX9 yX9_u1 wsX9_u1) := goodIn_app (goodIn_of _ (by decide +kernel)) ggX9_move_X9_u1
set_option maxRecDepth 20000 in
theorem ggX9_move_X9_acts : GoodIn wsX9_move wsX9_acts := goodIn_r _ [43, 44, 21, 45, 46, 47, 5, 48, 39, 30, 49, 50, 51, 52, 53, 54, 55, 56, 31, 32, 33, 34, 35, 36, 37, 38, 57, 58, 59, 60, 61, 62, 63, 64, 65, 66, 67, 68, 69, 70, 71, 1, 72, 73, 74, 75, 76, 77, 78, 79, 7, 80, 81, 82, 83, 84, 22, 85, 86, 87, 88, 89, 90, 91, 92, 16, 8, 93, 94, 95, 96, 97, 98, 99, 100, 101, 102, 103, 104, 105, 106, 107, 108, 109, 110, 111, 112, 113, 114, 115, 116, 117] (by decide +kernel) (by decide +kernel)
set_option maxRecDepth 20000 in
theorem gX9_move_X9_acts : GoodIn wsX9_move (wsV RX9 161 RX9 yX9_acts wsX9_acts) := goodIn_app (goodIn_of _ (by decide +kernel)) ggX9_move_X9_acts
theorem dX9_move_0 : decode cX9_move 0 = .ok (.aload_n 0, 1) := by decide +kernel
theorem dX9_move_1 : decode cX9_move 1 = .ok (.getfield 77, 3) := by decide +kernel
theorem dX9_move_4 : decode cX9_move 4 = .ok (.ifCond .eq 5, 3) := by decide +kernel
theorem dX9_move_7 : decode cX9_move 7 = .ok (.iconst (-1), 1) := by decide +kernel
theorem dX9_move_8 : decode cX9_move 8 = .ok (.ireturn, 1) := by decide +kernel
theorem dX9_move_9 : decode cX9_move 9 = .ok (.aload_n 0, 1) := by decide +kernel
theorem dX9_move_10 : decode cX9_move 10 = .ok (.iload_n 1, 1) := by decide +kernel
theorem dX9_move_11 : decode cX9_move 11 = .ok (.invokevirtual 165, 3) := by decide +kernel
theorem dX9_move_14 : decode cX9_move 14 = .ok (.ifCond .eq 10, 3) := by decide +kernel
theorem dX9_move_17 : decode cX9_move 17 = .ok (.iload_n 2, 1) := by decide +kernel
theorem dX9_move_18 : decode cX9_move 18 = .ok (.invokestatic 137, 3) := by decide +kernel
theorem dX9_move_21 : decode cX9_move 21 = .ok (.ifCond .ne 6, 3) := by decide +kernel
theorem dX9_move_24 : decode cX9_move 24 = .ok (.bipush (-2), 2) := by decide +kernel
theorem dX9_move_26 : decode cX9_move 26 = .ok (.ireturn, 1) := by decide +kernel
theorem dX9_move_27 : decode cX9_move 27 = .ok (.aload_n 0, 1) := by decide +kernel
theorem dX9_move_28 : decode cX9_move 28 = .ok (.iload_n 2, 1) := by decide +kernel
theorem dX9_move_29 : decode cX9_move 29 = .ok (.invokevirtual 140, 3) := by decide +kernel
theorem dX9_move_32 : decode cX9_move 32 = .ok (.iconst (-1), 1) := by decide +kernel
theorem dX9_move_33 : decode cX9_move 33 = .ok (.if_icmp .eq 6, 3) := by decide +kernel
theorem dX9_move_36 : decode cX9_move 36 = .ok (.bipush (-3), 2) := by decide +kernel
theorem dX9_move_38 : decode cX9_move 38 = .ok (.ireturn, 1) := by decide +kernel
theorem dX9_move_39 : decode cX9_move 39 = .ok (.aload_n 0, 1) := by decide +kernel
theorem dX9_move_40 : decode cX9_move 40 = .ok (.iconst 3, 1) := by decide +kernel
theorem dX9_move_41 : decode cX9_move 41 = .ok (.invokevirtual 151, 3) := by decide +kernel
theorem dX9_move_44 : decode cX9_move 44 = .ok (.ifCond .ne 6, 3) := by decide +kernel
theorem dX9_move_47 : decode cX9_move 47 = .ok (.bipush (-6), 2) := by decide +kernel
theorem dX9_move_49 : decode cX9_move 49 = .ok (.ireturn, 1) := by decide +kernel
theorem dX9_move_50 : decode cX9_move 50 = .ok (.aload_n 0, 1) := by decide +kernel
theorem dX9_move_51 : decode cX9_move 51 = .ok (.iconst 3, 1) := by decide +kernel
theorem dX9_move_52 : decode cX9_move 52 = .ok (.invokevirtual 154, 3) := by decide +kernel
theorem dX9_move_55 : decode cX9_move 55 = .ok (.aload_n 0, 1) := by decide +kernel
theorem dX9_move_56 : decode cX9_move 56 = .ok (.iload_n 1, 1) := by decide +kernel
theorem dX9_move_57 : decode cX9_move 57 = .ok (.invokevirtual 63, 3) := by decide +kernel
theorem dX9_move_60 : decode cX9_move 60 = .ok (.aload_n 0, 1) := by decide +kernel
theorem dX9_move_61 : decode cX9_move 61 = .ok (.iload_n 2, 1) := by decide +kernel
theorem dX9_move_62 : decode cX9_move 62 = .ok (.invokevirtual 54, 3) := by decide +kernel
theorem dX9_move_65 : decode cX9_move 65 = .ok (.aload_n 0, 1) := by decide +kernel
theorem dX9_move_66 : decode cX9_move 66 = .ok (.invokevirtual 161, 3) := by decide +kernel
theorem dX9_move_69 : decode cX9_move 69 = .ok (.ifCond .eq 7, 3) := by decide +kernel
theorem dX9_move_72 : decode cX9_move 72 = .ok (.iconst 0, 1) := by decide +kernel
theorem dX9_move_73 : decode cX9_move 73 = .ok (.goto 4, 3) := by decide +kernel
theorem dX9_move_76 : decode cX9_move 76 = .ok (.iconst (-1), 1) := by decide +kernel
theorem dX9_move_77 : decode cX9_move 77 = .ok (.ireturn, 1) := by decide +kernel
set_option maxRecDepth 20000 in
theorem ggX9_discard_X9_isLive : GoodIn wsX9_discard wsX9_isLive := goodIn_r _ [6, 7, 8, 91, 92, 93, 94, 95, 96, 97, 98, 99, 100, 101, 102, 103, 104, 105, 106, 107, 108, 109, 110] (by decide +kernel) (by decide +kernel)
set_option maxRecDepth 20000 in
theorem gX9_discard_X9_isLive : GoodIn wsX9_discard (wsV RX9 165 RX9 yX9_isLive wsX9_isLive) := goodIn_app (goodIn_of _ (by decide +kernel)) ggX9_discard_X9_isLive
set_option maxRecDepth 20000 in
theorem ggX9_discard_X9_hasRoom : GoodIn wsX9_discard wsX9_hasRoom := goodIn_r _ [12, 13, 14, 15, 16, 5, 17, 91, 92, 93, 94, 95, 96, 97, 98, 99, 100, 101, 102, 103, 104, 105, 106, 107, 108, 109, 110] (by decide +kernel) (by decide +kernel)
set_option maxRecDepth 20000 in
theorem gX9_discard_X9_hasRoom : GoodIn wsX9_discard (wsV RX9 151 RX9 yX9_hasRoom wsX9_hasRoom) := goodIn_app (goodIn_of _ (by decide +kernel)) ggX9_discard_X9_hasRoom
set_option maxRecDepth 20000 in
theorem ggX9_discard_X9_begin : GoodIn wsX9_discard wsX9_begin := goodIn_r _ [21, 22, 15, 16, 5, 17, 23, 24, 25, 26, 27, 28, 29, 30, 31, 91, 92, 93, 94, 95, 96, 97, 98, 99, 100, 101, 102, 103, 104, 105, 106, 107, 108, 109, 110] (by decide +kernel) (by decide +kernel)
set_option maxRecDepth 20000 in
theorem gX9_discard_X9_begin : GoodIn wsX9_discard (wsV RX9 154 RX9 yX9_begin wsX9_begin) := goodIn_app (goodIn_of _ (by decide +kernel)) ggX9_discard_X9_begin
set_option maxRecDepth 20000 in
theorem ggX9_discard_X9_u2 : GoodIn wsX9_discard wsX9_u2 := goodIn_r _ [26, 27, 28, 29, 5, 30, 31, 22, 91, 92, 93, 94, 95, 96, 97, 98, 99, 100, 101, 102, 103, 104, 105, 106, 107, 108, 109, 110] (by decide +kernel) (by decide +kernel)
set_option maxRecDepth 20000 in
theorem gX9_discard_X9_u2 : GoodIn wsX9_discard (wsV RX9 63 RX9 yX9_u2 wsX9_u2) := goodIn_app (goodIn_of _ (by decide +kernel)) ggX9_discard_X9_u2
set_option maxRecDepth 20000 in
theorem ggX9_discard_X9_acts : GoodIn wsX9_discard wsX9_acts := goodIn_r _ [35, 36, 13, 37, 38, 39, 5, 40, 31, 22, 41, 42, 43, 44, 45, 46, 47, 48, 23, 24, 25, 26, 27, 28, 29, 30, 49, 50, 51, 52, 53, 54, 55, 56, 57, 58, 59, 60, 61, 62, 63, 1, 64, 65, 66, 67, 68, 69, 70, 71, 7, 72, 73, 74, 75, 76, 14, 77, 78, 79, 80, 81, 82, 83, 84, 85, 8, 86, 87, 88, 89, 90, 91, 92, 93, 94, 95, 96, 97, 98, 99, 100, 101, 102, 103, 104, 105, 106, 107, 108, 109, 110] (by decide +kernel) (by decide +kernel)
set_option maxRecDepth 20000 in
theorem gX9_discard_X9_acts : GoodIn wsX9_discard (wsV RX9 161 RX9 yX9_acts wsX9_acts) := goodIn_app (goodIn_of _ (by decide +kernel)) ggX9_discard_X9_acts
theorem dX9_discard_0 : decode cX9_discard 0 = .ok (.aload_n 0, 1) := by decide +kernel
theorem dX9_discard_1 : decode cX9_discard 1 = .ok (.getfield 77, 3) := by decide +kernel
theorem dX9_discard_4 : decode cX9_discard 4 = .ok (.ifCond .eq 5, 3) := by decide +kernel
theorem dX9_discard_7 : decode cX9_discard 7 = .ok (.iconst (-1), 1) := by decide +kernel
theorem dX9_discard_8 : decode cX9_discard 8 = .ok (.ireturn, 1) := by decide +kernel
theorem dX9_discard_9 : decode cX9_discard 9 = .ok (.aload_n 0, 1) := by decide +kernel
theorem dX9_discard_10 : decode cX9_discard 10 = .ok (.iload_n 1, 1) := by decide +kernel
theorem dX9_discard_11 : decode cX9_discard 11 = .ok (.invokevirtual 165, 3) := by decide +kernel
theorem dX9_discard_14 : decode cX9_discard 14 = .ok (.ifCond .ne 6, 3) := by decide +kernel
theorem dX9_discard_17 : decode cX9_discard 17 = .ok (.bipush (-2), 2) := by decide +kernel
theorem dX9_discard_19 : decode cX9_discard 19 = .ok (.ireturn, 1) := by decide +kernel
theorem dX9_discard_20 : decode cX9_discard 20 = .ok (.aload_n 0, 1) := by decide +kernel
theorem dX9_discard_21 : decode cX9_discard 21 = .ok (.iconst 4, 1) := by decide +kernel
theorem dX9_discard_22 : decode cX9_discard 22 = .ok (.invokevirtual 151, 3) := by decide +kernel
theorem dX9_discard_25 : decode cX9_discard 25 = .ok (.ifCond .ne 6, 3) := by decide +kernel
theorem dX9_discard_28 : decode cX9_discard 28 = .ok (.bipush (-6), 2) := by decide +kernel
theorem dX9_discard_30 : decode cX9_discard 30 = .ok (.ireturn, 1) := by decide +kernel
theorem dX9_discard_31 : decode cX9_discard 31 = .ok (.aload_n 0, 1) := by decide +kernel
theorem dX9_discard_32 : decode cX9_discard 32 = .ok (.iconst 4, 1) := by decide +kernel
theorem dX9_discard_33 : decode cX9_discard 33 = .ok (.invokevirtual 154, 3) := by decide +kernel
theorem dX9_discard_36 : decode cX9_discard 36 = .ok (.aload_n 0, 1) := by decide +kernel
theorem dX9_discard_37 : decode cX9_discard 37 = .ok (.iload_n 1, 1) := by decide +kernel
theorem dX9_discard_38 : decode cX9_discard 38 = .ok (.invokevirtual 63, 3) := by decide +kernel
theorem dX9_discard_41 : decode cX9_discard 41 = .ok (.aload_n 0, 1) := by decide +kernel
theorem dX9_discard_42 : decode cX9_discard 42 = .ok (.invokevirtual 161, 3) := by decide +kernel
theorem dX9_discard_45 : decode cX9_discard 45 = .ok (.ifCond .eq 7, 3) := by decide +kernel
theorem dX9_discard_48 : decode cX9_discard 48 = .ok (.iconst 0, 1) := by decide +kernel
theorem dX9_discard_49 : decode cX9_discard 49 = .ok (.goto 4, 3) := by decide +kernel
theorem dX9_discard_52 : decode cX9_discard 52 = .ok (.iconst (-1), 1) := by decide +kernel
theorem dX9_discard_53 : decode cX9_discard 53 = .ok (.ireturn, 1) := by decide +kernel
set_option maxRecDepth 20000 in
theorem ggX9_undo_X9_hasRoom : GoodIn wsX9_undo wsX9_hasRoom := goodIn_r _ [7, 8, 9, 10, 11, 6, 12, 87, 88, 89, 90, 91, 92, 93, 94, 95, 96, 97, 98, 99, 100, 101, 102, 103, 104, 105, 106] (by decide +kernel) (by decide +kernel)
set_option maxRecDepth 20000 in
theorem gX9_undo_X9_hasRoom : GoodIn wsX9_undo (wsV RX9 151 RX9 yX9_hasRoom wsX9_hasRoom) := goodIn_app (goodIn_of _ (by decide +kernel)) ggX9_undo_X9_hasRoom
set_option maxRecDepth 20000 in
theorem ggX9_undo_X9_begin : GoodIn wsX9_undo wsX9_begin := goodIn_r _ [16, 17, 10, 11, 6, 12, 18, 19, 20, 21, 22, 23, 24, 25, 26, 87, 88, 89, 90, 91, 92, 93, 94, 95, 96, 97, 98, 99, 100, 101, 102, 103, 104, 105, 106] (by decide +kernel) (by decide +kernel)
set_option maxRecDepth 20000 in
theorem gX9_undo_X9_begin : GoodIn wsX9_undo (wsV RX9 154 RX9 yX9_begin wsX9_begin) := goodIn_app (goodIn_of _ (by decide +kernel)) ggX9_undo_X9_begin
set_option maxRecDepth 20000 in
theorem ggX9_undo_X9_acts : GoodIn wsX9_undo wsX9_acts := goodIn_r _ [30, 31, 8, 32, 33, 34, 6, 35, 26, 17, 36, 37, 38, 39, 40, 41, 42, 43, 18, 19, 20, 21, 22, 23, 24, 25, 44, 45, 46, 47, 48, 49, 50, 51, 52, 53, 54, 55, 56, 57, 58, 1, 59, 60, 61, 62, 63, 64, 2, 65, 66, 67, 68, 69, 70, 71, 9, 72, 73, 74, 75, 76, 77, 78, 79, 80, 81, 82, 83, 84, 85, 86, 87, 88, 89, 90, 91, 92, 93, 94, 95, 96, 97, 98, 99, 100, 101, 102, 103, 104, 105, 106] (by decide +kernel) (by decide +kernel)
set_option maxRecDepth 20000 in
theorem gX9_undo_X9_acts : GoodIn wsX9_undo (wsV RX9 161 RX9 yX9_acts wsX9_acts) := goodIn_app (goodIn_of _ (by decide +kernel)) ggX9_undo_X9_acts
theorem dX9_undo_0 : decode cX9_undo 0 = .ok (.aload_n 0, 1) := by decide +kernel
theorem dX9_undo_1 : decode cX9_undo 1 = .ok (.getfield 77, 3) := by decide +kernel
end
section
theorem dX9_undo_4 : decode cX9_undo 4 = .ok (.ifCond .eq 5, 3) := by decide +kernel
theorem dX9_undo_7 : decode cX9_undo 7 = .ok (.iconst (-1), 1) := by decide +kernel
theorem dX9_undo_8 : decode cX9_undo 8 = .ok (.ireturn, 1) := by decide +kernel
theorem dX9_undo_9 : decode cX9_undo 9 = .ok (.aload_n 0, 1) := by decide +kernel
theorem dX9_undo_10 : decode cX9_undo 10 = .ok (.iconst 5, 1) := by decide +kernel
theorem dX9_undo_11 : decode cX9_undo 11 = .ok (.invokevirtual 151, 3) := by decide +kernel
theorem dX9_undo_14 : decode cX9_undo 14 = .ok (.ifCond .ne 6, 3) := by decide +kernel
theorem dX9_undo_17 : decode cX9_undo 17 = .ok (.bipush (-6), 2) := by decide +kernel
theorem dX9_undo_19 : decode cX9_undo 19 = .ok (.ireturn, 1) := by decide +kernel
theorem dX9_undo_20 : decode cX9_undo 20 = .ok (.aload_n 0, 1) := by decide +kernel
theorem dX9_undo_21 : decode cX9_undo 21 = .ok (.getfield 109, 3) := by decide +kernel
theorem dX9_undo_24 : decode cX9_undo 24 = .ok (.ifCond .ne 6, 3) := by decide +kernel
theorem dX9_undo_27 : decode cX9_undo 27 = .ok (.bipush (-7), 2) := by decide +kernel
theorem dX9_undo_29 : decode cX9_undo 29 = .ok (.ireturn, 1) := by decide +kernel
theorem dX9_undo_30 : decode cX9_undo 30 = .ok (.aload_n 0, 1) := by decide +kernel
theorem dX9_undo_31 : decode cX9_undo 31 = .ok (.iconst 5, 1) := by decide +kernel
theorem dX9_undo_32 : decode cX9_undo 32 = .ok (.invokevirtual 154, 3) := by decide +kernel
theorem dX9_undo_35 : decode cX9_undo 35 = .ok (.aload_n 0, 1) := by decide +kernel
theorem dX9_undo_36 : decode cX9_undo 36 = .ok (.invokevirtual 161, 3) := by decide +kernel
theorem dX9_undo_39 : decode cX9_undo 39 = .ok (.ifCond .eq 10, 3) := by decide +kernel
theorem dX9_undo_42 : decode cX9_undo 42 = .ok (.aload_n 0, 1) := by decide +kernel
theorem dX9_undo_43 : decode cX9_undo 43 = .ok (.getfield 109, 3) := by decide +kernel
theorem dX9_undo_46 : decode cX9_undo 46 = .ok (.goto 4, 3) := by decide +kernel
theorem dX9_undo_49 : decode cX9_undo 49 = .ok (.iconst (-1), 1) := by decide +kernel
theorem dX9_undo_50 : decode cX9_undo 50 = .ok (.ireturn, 1) := by decide +kernel
set_option maxRecDepth 20000 in
theorem ggX9_compact_X9_lengthOf : GoodIn wsX9_compact wsX9_lengthOf := goodIn_r _ [15] (by decide +kernel) (by decide +kernel)
set_option maxRecDepth 20000 in
theorem gX9_compact_X9_lengthOf : GoodIn wsX9_compact (va_wsS RX9 67 yX9_lengthOf wsX9_lengthOf) := goodIn_app (goodIn_of _ (by decide +kernel)) ggX9_compact_X9_lengthOf
set_option maxRecDepth 20000 in
theorem ggX9_compact_X9_write : GoodIn wsX9_compact wsX9_write := goodIn_r _ [19, 20, 21, 22, 23, 24, 25, 14, 26, 1, 27, 87, 88, 89, 90, 91, 92, 93, 94, 95, 96, 97, 98, 99, 100, 101, 102, 103, 104, 105, 106] (by decide +kernel) (by decide +kernel)
set_option maxRecDepth 20000 in
theorem gX9_compact_X9_write : GoodIn wsX9_compact (wsV RX9 84 RX9 yX9_write wsX9_write) := goodIn_app (goodIn_of _ (by decide +kernel)) ggX9_compact_X9_write
set_option maxRecDepth 20000 in
theorem ggX9_compact_X9_begin : GoodIn wsX9_compact wsX9_begin := goodIn_r _ [31, 6, 12, 13, 14, 15, 32, 33, 34, 35, 36, 37, 38, 39, 11, 87, 88, 89, 90, 91, 92, 93, 94, 95, 96, 97, 98, 99, 100, 101, 102, 103, 104, 105, 106] (by decide +kernel) (by decide +kernel)
set_option maxRecDepth 20000 in
theorem gX9_compact_X9_begin : GoodIn wsX9_compact (wsV RX9 154 RX9 yX9_begin wsX9_begin) := goodIn_app (goodIn_of _ (by decide +kernel)) ggX9_compact_X9_begin
set_option maxRecDepth 20000 in
theorem ggX9_compact_X9_u8 : GoodIn wsX9_compact wsX9_u8 := goodIn_r _ [43, 44, 45, 46, 14, 47, 32, 33, 34, 35, 36, 37, 38, 39, 11, 6, 87, 88, 89, 90, 91, 92, 93, 94, 95, 96, 97, 98, 99, 100, 101, 102, 103, 104, 105, 106] (by decide +kernel) (by decide +kernel)
set_option maxRecDepth 20000 in
theorem gX9_compact_X9_u8 : GoodIn wsX9_compact (wsV RX9 157 RX9 yX9_u8 wsX9_u8) := goodIn_app (goodIn_of _ (by decide +kernel)) ggX9_compact_X9_u8
set_option maxRecDepth 20000 in
theorem ggX9_compact_X9_checked : GoodIn wsX9_compact wsX9_checked := goodIn_r _ [51, 11, 6, 52, 53, 14, 54, 55, 44, 45, 46, 47, 32, 33, 34, 35, 36, 37, 38, 39, 87, 88, 89, 90, 91, 92, 93, 94, 95, 96, 97, 98, 99, 100, 101, 102, 103, 104, 105, 106] (by decide +kernel) (by decide +kernel)
set_option maxRecDepth 20000 in
theorem gX9_compact_X9_checked : GoodIn wsX9_compact (wsV RX9 130 RX9 yX9_checked wsX9_checked) := goodIn_app (goodIn_of _ (by decide +kernel)) ggX9_compact_X9_checked
set_option maxRecDepth 20000 in
theorem ggX9_compact_X9_writeRow : GoodIn wsX9_compact wsX9_writeRow := goodIn_r _ [59, 6, 11, 16, 17, 18, 14, 19, 20, 21, 22, 23, 24, 25, 26, 1, 27, 87, 88, 89, 90, 91, 92, 93, 94, 95, 96, 97, 98, 99, 100, 101, 102, 103, 104, 105, 106] (by decide +kernel) (by decide +kernel)
set_option maxRecDepth 20000 in
theorem gX9_compact_X9_writeRow : GoodIn wsX9_compact (wsV RX9 133 RX9 yX9_writeRow wsX9_writeRow) := goodIn_app (goodIn_of _ (by decide +kernel)) ggX9_compact_X9_writeRow
set_option maxRecDepth 20000 in
theorem ggX9_compact_X9_u2 : GoodIn wsX9_compact wsX9_u2 := goodIn_r _ [35, 36, 37, 38, 14, 39, 11, 6, 87, 88, 89, 90, 91, 92, 93, 94, 95, 96, 97, 98, 99, 100, 101, 102, 103, 104, 105, 106] (by decide +kernel) (by decide +kernel)
set_option maxRecDepth 20000 in
theorem gX9_compact_X9_u2 : GoodIn wsX9_compact (wsV RX9 63 RX9 yX9_u2 wsX9_u2) := goodIn_app (goodIn_of _ (by decide +kernel)) ggX9_compact_X9_u2
set_option maxRecDepth 20000 in
theorem ggX9_compact_X9_u1 : GoodIn wsX9_compact wsX9_u1 := goodIn_r _ [39, 11, 6, 87, 88, 89, 90, 91, 92, 93, 94, 95, 96, 97, 98, 99, 100, 101, 102, 103, 104, 105, 106] (by decide +kernel) (by decide +kernel)
set_option maxRecDepth 20000 in
theorem gX9_compact_X9_u1 : GoodIn wsX9_compact (wsV RX9 54 RX9 yX9_u1 wsX9_u1) := goodIn_app (goodIn_of _ (by decide +kernel)) ggX9_compact_X9_u1
set_option maxRecDepth 20000 in
theorem ggX9_compact_X9_generation : GoodIn wsX9_compact wsX9_generation := goodIn_r _ [63, 21, 64, 65, 14, 66, 87, 88, 89, 90, 91, 92, 93, 94, 95, 96, 97, 98, 99, 100, 101, 102, 103, 104, 105, 106] (by decide +kernel) (by decide +kernel)
set_option maxRecDepth 20000 in
theorem gX9_compact_X9_generation : GoodIn wsX9_compact (wsV RX9 96 RX9 yX9_generation wsX9_generation) := goodIn_app (goodIn_of _ (by decide +kernel)) ggX9_compact_X9_generation
set_option maxRecDepth 20000 in
theorem ggX9_compact_X9_u4 : GoodIn wsX9_compact wsX9_u4 := goodIn_r _ [47, 32, 33, 34, 14, 35, 36, 37, 38, 39, 11, 6, 87, 88, 89, 90, 91, 92, 93, 94, 95, 96, 97, 98, 99, 100, 101, 102, 103, 104, 105, 106] (by decide +kernel) (by decide +kernel)
set_option maxRecDepth 20000 in
theorem gX9_compact_X9_u4 : GoodIn wsX9_compact (wsV RX9 46 RX9 yX9_u4 wsX9_u4) := goodIn_app (goodIn_of _ (by decide +kernel)) ggX9_compact_X9_u4
set_option maxRecDepth 20000 in
theorem ggX9_compact_X9_crc : GoodIn wsX9_compact wsX9_crc := goodIn_r _ [54, 55] (by decide +kernel) (by decide +kernel)
set_option maxRecDepth 20000 in
theorem gX9_compact_X9_crc : GoodIn wsX9_compact (va_wsS RX9 50 yX9_crc wsX9_crc) := goodIn_app (goodIn_of _ (by decide +kernel)) ggX9_compact_X9_crc
set_option maxRecDepth 20000 in
theorem ggX9_compact_X9_reads : GoodIn wsX9_compact wsX9_reads := goodIn_r _ [70, 21, 2, 71, 72, 73, 74, 3, 5, 75, 76, 77, 14, 78, 4, 64, 65, 66, 52, 53, 54, 55, 79, 80, 81, 82, 10, 9, 8, 83, 84, 85, 86, 7, 87, 88, 89, 90, 91, 92, 93, 94, 95, 96, 97, 98, 99, 100, 101, 102, 103, 104, 105, 106] (by decide +kernel) (by decide +kernel)
set_option maxRecDepth 20000 in
theorem gX9_compact_X9_reads : GoodIn wsX9_compact (wsV RX9 57 RX9 yX9_reads wsX9_reads) := goodIn_app (goodIn_of _ (by decide +kernel)) ggX9_compact_X9_reads
theorem dX9_compact_0 : decode cX9_compact 0 = .ok (.aload_n 0, 1) := by decide +kernel
theorem dX9_compact_1 : decode cX9_compact 1 = .ok (.getfield 77, 3) := by decide +kernel
theorem dX9_compact_4 : decode cX9_compact 4 = .ok (.ifCond .eq 5, 3) := by decide +kernel
theorem dX9_compact_7 : decode cX9_compact 7 = .ok (.iconst (-1), 1) := by decide +kernel
theorem dX9_compact_8 : decode cX9_compact 8 = .ok (.ireturn, 1) := by decide +kernel
theorem dX9_compact_9 : decode cX9_compact 9 = .ok (.iconst 1, 1) := by decide +kernel
theorem dX9_compact_10 : decode cX9_compact 10 = .ok (.aload_n 0, 1) := by decide +kernel
theorem dX9_compact_11 : decode cX9_compact 11 = .ok (.getfield 100, 3) := by decide +kernel
theorem dX9_compact_14 : decode cX9_compact 14 = .ok (.isub, 1) := by decide +kernel
theorem dX9_compact_15 : decode cX9_compact 15 = .ok (.istore_n 1, 1) := by decide +kernel
theorem dX9_compact_16 : decode cX9_compact 16 = .ok (.bipush 9, 2) := by decide +kernel
theorem dX9_compact_18 : decode cX9_compact 18 = .ok (.bipush 7, 2) := by decide +kernel
theorem dX9_compact_20 : decode cX9_compact 20 = .ok (.invokestatic 67, 3) := by decide +kernel
theorem dX9_compact_23 : decode cX9_compact 23 = .ok (.iadd, 1) := by decide +kernel
theorem dX9_compact_24 : decode cX9_compact 24 = .ok (.aload_n 0, 1) := by decide +kernel
theorem dX9_compact_25 : decode cX9_compact 25 = .ok (.getfield 115, 3) := by decide +kernel
theorem dX9_compact_28 : decode cX9_compact 28 = .ok (.bipush 6, 2) := by decide +kernel
theorem dX9_compact_30 : decode cX9_compact 30 = .ok (.invokestatic 67, 3) := by decide +kernel
theorem dX9_compact_33 : decode cX9_compact 33 = .ok (.imul, 1) := by decide +kernel
theorem dX9_compact_34 : decode cX9_compact 34 = .ok (.iadd, 1) := by decide +kernel
theorem dX9_compact_35 : decode cX9_compact 35 = .ok (.aload_n 0, 1) := by decide +kernel
theorem dX9_compact_36 : decode cX9_compact 36 = .ok (.getfield 35, 3) := by decide +kernel
theorem dX9_compact_39 : decode cX9_compact 39 = .ok (.if_icmp .le 6, 3) := by decide +kernel
theorem dX9_compact_42 : decode cX9_compact 42 = .ok (.bipush (-6), 2) := by decide +kernel
theorem dX9_compact_44 : decode cX9_compact 44 = .ok (.ireturn, 1) := by decide +kernel
theorem dX9_compact_45 : decode cX9_compact 45 = .ok (.iconst 0, 1) := by decide +kernel
theorem dX9_compact_46 : decode cX9_compact 46 = .ok (.istore_n 2, 1) := by decide +kernel
theorem dX9_compact_47 : decode cX9_compact 47 = .ok (.iload_n 2, 1) := by decide +kernel
theorem dX9_compact_48 : decode cX9_compact 48 = .ok (.aload_n 0, 1) := by decide +kernel
theorem dX9_compact_49 : decode cX9_compact 49 = .ok (.getfield 35, 3) := by decide +kernel
theorem dX9_compact_52 : decode cX9_compact 52 = .ok (.if_icmp .ge 21, 3) := by decide +kernel
theorem dX9_compact_55 : decode cX9_compact 55 = .ok (.aload_n 0, 1) := by decide +kernel
theorem dX9_compact_56 : decode cX9_compact 56 = .ok (.iload_n 1, 1) := by decide +kernel
theorem dX9_compact_57 : decode cX9_compact 57 = .ok (.iload_n 2, 1) := by decide +kernel
theorem dX9_compact_58 : decode cX9_compact 58 = .ok (.iconst 0, 1) := by decide +kernel
theorem dX9_compact_59 : decode cX9_compact 59 = .ok (.invokevirtual 84, 3) := by decide +kernel
theorem dX9_compact_62 : decode cX9_compact 62 = .ok (.ifCond .ne 5, 3) := by decide +kernel
theorem dX9_compact_65 : decode cX9_compact 65 = .ok (.iconst (-1), 1) := by decide +kernel
theorem dX9_compact_66 : decode cX9_compact 66 = .ok (.ireturn, 1) := by decide +kernel
theorem dX9_compact_67 : decode cX9_compact 67 = .ok (.iinc 2 1, 3) := by decide +kernel
theorem dX9_compact_70 : decode cX9_compact 70 = .ok (.goto (-23), 3) := by decide +kernel
theorem dX9_compact_73 : decode cX9_compact 73 = .ok (.bipush 9, 2) := by decide +kernel
theorem dX9_compact_75 : decode cX9_compact 75 = .ok (.istore_n 2, 1) := by decide +kernel
theorem dX9_compact_76 : decode cX9_compact 76 = .ok (.aload_n 0, 1) := by decide +kernel
theorem dX9_compact_77 : decode cX9_compact 77 = .ok (.bipush 7, 2) := by decide +kernel
theorem dX9_compact_79 : decode cX9_compact 79 = .ok (.invokevirtual 154, 3) := by decide +kernel
theorem dX9_compact_82 : decode cX9_compact 82 = .ok (.aload_n 0, 1) := by decide +kernel
theorem dX9_compact_83 : decode cX9_compact 83 = .ok (.aload_n 0, 1) := by decide +kernel
theorem dX9_compact_84 : decode cX9_compact 84 = .ok (.getfield 118, 3) := by decide +kernel
theorem dX9_compact_87 : decode cX9_compact 87 = .ok (.invokevirtual 157, 3) := by decide +kernel
theorem dX9_compact_90 : decode cX9_compact 90 = .ok (.aload_n 0, 1) := by decide +kernel
theorem dX9_compact_91 : decode cX9_compact 91 = .ok (.invokevirtual 130, 3) := by decide +kernel
theorem dX9_compact_94 : decode cX9_compact 94 = .ok (.aload_n 0, 1) := by decide +kernel
theorem dX9_compact_95 : decode cX9_compact 95 = .ok (.iload_n 1, 1) := by decide +kernel
theorem dX9_compact_96 : decode cX9_compact 96 = .ok (.iload_n 2, 1) := by decide +kernel
theorem dX9_compact_97 : decode cX9_compact 97 = .ok (.invokevirtual 133, 3) := by decide +kernel
theorem dX9_compact_100 : decode cX9_compact 100 = .ok (.ifCond .ne 5, 3) := by decide +kernel
theorem dX9_compact_103 : decode cX9_compact 103 = .ok (.iconst (-1), 1) := by decide +kernel
theorem dX9_compact_104 : decode cX9_compact 104 = .ok (.ireturn, 1) := by decide +kernel
theorem dX9_compact_105 : decode cX9_compact 105 = .ok (.iload_n 2, 1) := by decide +kernel
theorem dX9_compact_106 : decode cX9_compact 106 = .ok (.aload_n 0, 1) := by decide +kernel
theorem dX9_compact_107 : decode cX9_compact 107 = .ok (.getfield 43, 3) := by decide +kernel
theorem dX9_compact_110 : decode cX9_compact 110 = .ok (.iadd, 1) := by decide +kernel
theorem dX9_compact_111 : decode cX9_compact 111 = .ok (.istore_n 2, 1) := by decide +kernel
theorem dX9_compact_112 : decode cX9_compact 112 = .ok (.iconst 1, 1) := by decide +kernel
theorem dX9_compact_113 : decode cX9_compact 113 = .ok (.istore_n 3, 1) := by decide +kernel
theorem dX9_compact_114 : decode cX9_compact 114 = .ok (.iload_n 3, 1) := by decide +kernel
theorem dX9_compact_115 : decode cX9_compact 115 = .ok (.aload_n 0, 1) := by decide +kernel
theorem dX9_compact_116 : decode cX9_compact 116 = .ok (.getfield 115, 3) := by decide +kernel
theorem dX9_compact_119 : decode cX9_compact 119 = .ok (.if_icmp .gt 82, 3) := by decide +kernel
theorem dX9_compact_122 : decode cX9_compact 122 = .ok (.aload_n 0, 1) := by decide +kernel
theorem dX9_compact_123 : decode cX9_compact 123 = .ok (.bipush 6, 2) := by decide +kernel
theorem dX9_compact_125 : decode cX9_compact 125 = .ok (.invokevirtual 154, 3) := by decide +kernel
theorem dX9_compact_128 : decode cX9_compact 128 = .ok (.aload_n 0, 1) := by decide +kernel
theorem dX9_compact_129 : decode cX9_compact 129 = .ok (.aload_n 0, 1) := by decide +kernel
theorem dX9_compact_130 : decode cX9_compact 130 = .ok (.getfield 13, 3) := by decide +kernel
theorem dX9_compact_133 : decode cX9_compact 133 = .ok (.iload_n 3, 1) := by decide +kernel
theorem dX9_compact_134 : decode cX9_compact 134 = .ok (.iaload, 1) := by decide +kernel
theorem dX9_compact_135 : decode cX9_compact 135 = .ok (.invokevirtual 63, 3) := by decide +kernel
theorem dX9_compact_138 : decode cX9_compact 138 = .ok (.aload_n 0, 1) := by decide +kernel
theorem dX9_compact_139 : decode cX9_compact 139 = .ok (.aload_n 0, 1) := by decide +kernel
theorem dX9_compact_140 : decode cX9_compact 140 = .ok (.getfield 20, 3) := by decide +kernel
theorem dX9_compact_143 : decode cX9_compact 143 = .ok (.iload_n 3, 1) := by decide +kernel
theorem dX9_compact_144 : decode cX9_compact 144 = .ok (.baload, 1) := by decide +kernel
theorem dX9_compact_145 : decode cX9_compact 145 = .ok (.ifCond .eq 12, 3) := by decide +kernel
theorem dX9_compact_148 : decode cX9_compact 148 = .ok (.aload_n 0, 1) := by decide +kernel
theorem dX9_compact_149 : decode cX9_compact 149 = .ok (.getfield 17, 3) := by decide +kernel
theorem dX9_compact_152 : decode cX9_compact 152 = .ok (.iload_n 3, 1) := by decide +kernel
theorem dX9_compact_153 : decode cX9_compact 153 = .ok (.iaload, 1) := by decide +kernel
theorem dX9_compact_154 : decode cX9_compact 154 = .ok (.goto 6, 3) := by decide +kernel
theorem dX9_compact_157 : decode cX9_compact 157 = .ok (.sipush 255, 3) := by decide +kernel
theorem dX9_compact_160 : decode cX9_compact 160 = .ok (.invokevirtual 54, 3) := by decide +kernel
theorem dX9_compact_163 : decode cX9_compact 163 = .ok (.aload_n 0, 1) := by decide +kernel
theorem dX9_compact_164 : decode cX9_compact 164 = .ok (.aload_n 0, 1) := by decide +kernel
theorem dX9_compact_165 : decode cX9_compact 165 = .ok (.getfield 24, 3) := by decide +kernel
theorem dX9_compact_168 : decode cX9_compact 168 = .ok (.iload_n 3, 1) := by decide +kernel
theorem dX9_compact_169 : decode cX9_compact 169 = .ok (.laload, 1) := by decide +kernel
theorem dX9_compact_170 : decode cX9_compact 170 = .ok (.invokevirtual 157, 3) := by decide +kernel
theorem dX9_compact_173 : decode cX9_compact 173 = .ok (.aload_n 0, 1) := by decide +kernel
theorem dX9_compact_174 : decode cX9_compact 174 = .ok (.invokevirtual 130, 3) := by decide +kernel
theorem dX9_compact_177 : decode cX9_compact 177 = .ok (.aload_n 0, 1) := by decide +kernel
theorem dX9_compact_178 : decode cX9_compact 178 = .ok (.iload_n 1, 1) := by decide +kernel
theorem dX9_compact_179 : decode cX9_compact 179 = .ok (.iload_n 2, 1) := by decide +kernel
theorem dX9_compact_180 : decode cX9_compact 180 = .ok (.invokevirtual 133, 3) := by decide +kernel
theorem dX9_compact_183 : decode cX9_compact 183 = .ok (.ifCond .ne 5, 3) := by decide +kernel
theorem dX9_compact_186 : decode cX9_compact 186 = .ok (.iconst (-1), 1) := by decide +kernel
theorem dX9_compact_187 : decode cX9_compact 187 = .ok (.ireturn, 1) := by decide +kernel
theorem dX9_compact_188 : decode cX9_compact 188 = .ok (.iload_n 2, 1) := by decide +kernel
theorem dX9_compact_189 : decode cX9_compact 189 = .ok (.aload_n 0, 1) := by decide +kernel
theorem dX9_compact_190 : decode cX9_compact 190 = .ok (.getfield 43, 3) := by decide +kernel
theorem dX9_compact_193 : decode cX9_compact 193 = .ok (.iadd, 1) := by decide +kernel
theorem dX9_compact_194 : decode cX9_compact 194 = .ok (.istore_n 2, 1) := by decide +kernel
theorem dX9_compact_195 : decode cX9_compact 195 = .ok (.iinc 3 1, 3) := by decide +kernel
theorem dX9_compact_198 : decode cX9_compact 198 = .ok (.goto (-84), 3) := by decide +kernel
theorem dX9_compact_201 : decode cX9_compact 201 = .ok (.aload_n 0, 1) := by decide +kernel
theorem dX9_compact_202 : decode cX9_compact 202 = .ok (.iconst 0, 1) := by decide +kernel
theorem dX9_compact_203 : decode cX9_compact 203 = .ok (.putfield 43, 3) := by decide +kernel
theorem dX9_compact_206 : decode cX9_compact 206 = .ok (.aload_n 0, 1) := by decide +kernel
theorem dX9_compact_207 : decode cX9_compact 207 = .ok (.aload_n 0, 1) := by decide +kernel
theorem dX9_compact_208 : decode cX9_compact 208 = .ok (.aload_n 0, 1) := by decide +kernel
theorem dX9_compact_209 : decode cX9_compact 209 = .ok (.getfield 100, 3) := by decide +kernel
theorem dX9_compact_212 : decode cX9_compact 212 = .ok (.invokevirtual 96, 3) := by decide +kernel
theorem dX9_compact_215 : decode cX9_compact 215 = .ok (.l2i, 1) := by decide +kernel
theorem dX9_compact_216 : decode cX9_compact 216 = .ok (.iconst 1, 1) := by decide +kernel
theorem dX9_compact_217 : decode cX9_compact 217 = .ok (.iadd, 1) := by decide +kernel
theorem dX9_compact_218 : decode cX9_compact 218 = .ok (.invokevirtual 46, 3) := by decide +kernel
theorem dX9_compact_221 : decode cX9_compact 221 = .ok (.aload_n 0, 1) := by decide +kernel
theorem dX9_compact_222 : decode cX9_compact 222 = .ok (.aload_n 0, 1) := by decide +kernel
theorem dX9_compact_223 : decode cX9_compact 223 = .ok (.getfield 28, 3) := by decide +kernel
theorem dX9_compact_226 : decode cX9_compact 226 = .ok (.iconst 0, 1) := by decide +kernel
theorem dX9_compact_227 : decode cX9_compact 227 = .ok (.iconst 4, 1) := by decide +kernel
theorem dX9_compact_228 : decode cX9_compact 228 = .ok (.invokestatic 50, 3) := by decide +kernel
theorem dX9_compact_231 : decode cX9_compact 231 = .ok (.invokevirtual 46, 3) := by decide +kernel
theorem dX9_compact_234 : decode cX9_compact 234 = .ok (.aload_n 0, 1) := by decide +kernel
theorem dX9_compact_235 : decode cX9_compact 235 = .ok (.sipush 165, 3) := by decide +kernel
theorem dX9_compact_238 : decode cX9_compact 238 = .ok (.invokevirtual 54, 3) := by decide +kernel
theorem dX9_compact_241 : decode cX9_compact 241 = .ok (.aload_n 0, 1) := by decide +kernel
theorem dX9_compact_242 : decode cX9_compact 242 = .ok (.iload_n 1, 1) := by decide +kernel
theorem dX9_compact_243 : decode cX9_compact 243 = .ok (.iconst 0, 1) := by decide +kernel
theorem dX9_compact_244 : decode cX9_compact 244 = .ok (.invokevirtual 133, 3) := by decide +kernel
theorem dX9_compact_247 : decode cX9_compact 247 = .ok (.ifCond .ne 5, 3) := by decide +kernel
theorem dX9_compact_250 : decode cX9_compact 250 = .ok (.iconst (-1), 1) := by decide +kernel
theorem dX9_compact_251 : decode cX9_compact 251 = .ok (.ireturn, 1) := by decide +kernel
theorem dX9_compact_252 : decode cX9_compact 252 = .ok (.aload_n 0, 1) := by decide +kernel
theorem dX9_compact_253 : decode cX9_compact 253 = .ok (.iload_n 1, 1) := by decide +kernel
theorem dX9_compact_254 : decode cX9_compact 254 = .ok (.putfield 100, 3) := by decide +kernel
theorem dX9_compact_257 : decode cX9_compact 257 = .ok (.aload_n 0, 1) := by decide +kernel
theorem dX9_compact_258 : decode cX9_compact 258 = .ok (.invokevirtual 57, 3) := by decide +kernel
theorem dX9_compact_261 : decode cX9_compact 261 = .ok (.iconst 0, 1) := by decide +kernel
theorem dX9_compact_262 : decode cX9_compact 262 = .ok (.ireturn, 1) := by decide +kernel
theorem dX9_octet_0 : decode cX9_octet 0 = .ok (.iload_n 1, 1) := by decide +kernel
theorem dX9_octet_1 : decode cX9_octet 1 = .ok (.ifCond .lt 20, 3) := by decide +kernel
theorem dX9_octet_4 : decode cX9_octet 4 = .ok (.iload_n 1, 1) := by decide +kernel
theorem dX9_octet_5 : decode cX9_octet 5 = .ok (.iconst 1, 1) := by decide +kernel
theorem dX9_octet_6 : decode cX9_octet 6 = .ok (.if_icmp .gt 15, 3) := by decide +kernel
theorem dX9_octet_9 : decode cX9_octet 9 = .ok (.iload_n 2, 1) := by decide +kernel
theorem dX9_octet_10 : decode cX9_octet 10 = .ok (.ifCond .lt 11, 3) := by decide +kernel
theorem dX9_octet_13 : decode cX9_octet 13 = .ok (.iload_n 2, 1) := by decide +kernel
theorem dX9_octet_14 : decode cX9_octet 14 = .ok (.aload_n 0, 1) := by decide +kernel
theorem dX9_octet_15 : decode cX9_octet 15 = .ok (.getfield 35, 3) := by decide +kernel
theorem dX9_octet_18 : decode cX9_octet 18 = .ok (.if_icmp .lt 7, 3) := by decide +kernel
theorem dX9_octet_21 : decode cX9_octet 21 = .ok (.iconst (-1), 1) := by decide +kernel
theorem dX9_octet_22 : decode cX9_octet 22 = .ok (.goto 15, 3) := by decide +kernel
theorem dX9_octet_25 : decode cX9_octet 25 = .ok (.aload_n 0, 1) := by decide +kernel
theorem dX9_octet_26 : decode cX9_octet 26 = .ok (.getfield 40, 3) := by decide +kernel
theorem dX9_octet_29 : decode cX9_octet 29 = .ok (.iload_n 1, 1) := by decide +kernel
theorem dX9_octet_30 : decode cX9_octet 30 = .ok (.aaload, 1) := by decide +kernel
theorem dX9_octet_31 : decode cX9_octet 31 = .ok (.iload_n 2, 1) := by decide +kernel
theorem dX9_octet_32 : decode cX9_octet 32 = .ok (.baload, 1) := by decide +kernel
theorem dX9_octet_33 : decode cX9_octet 33 = .ok (.sipush 255, 3) := by decide +kernel
theorem dX9_octet_36 : decode cX9_octet 36 = .ok (.iand, 1) := by decide +kernel
theorem dX9_octet_37 : decode cX9_octet 37 = .ok (.ireturn, 1) := by decide +kernel
theorem dX9_isHere_0 : decode cX9_isHere 0 = .ok (.aload_n 0, 1) := by decide +kernel
theorem dX9_isHere_1 : decode cX9_isHere 1 = .ok (.getfield 77, 3) := by decide +kernel
theorem dX9_isHere_4 : decode cX9_isHere 4 = .ok (.ifCond .ne 19, 3) := by decide +kernel
theorem dX9_isHere_7 : decode cX9_isHere 7 = .ok (.iload_n 1, 1) := by decide +kernel
theorem dX9_isHere_8 : decode cX9_isHere 8 = .ok (.ifCond .le 15, 3) := by decide +kernel
theorem dX9_isHere_11 : decode cX9_isHere 11 = .ok (.iload_n 1, 1) := by decide +kernel
theorem dX9_isHere_12 : decode cX9_isHere 12 = .ok (.aload_n 0, 1) := by decide +kernel
theorem dX9_isHere_13 : decode cX9_isHere 13 = .ok (.getfield 115, 3) := by decide +kernel
theorem dX9_isHere_16 : decode cX9_isHere 16 = .ok (.if_icmp .gt 7, 3) := by decide +kernel
theorem dX9_isHere_19 : decode cX9_isHere 19 = .ok (.iconst 1, 1) := by decide +kernel
theorem dX9_isHere_20 : decode cX9_isHere 20 = .ok (.goto 4, 3) := by decide +kernel
theorem dX9_isHere_23 : decode cX9_isHere 23 = .ok (.iconst 0, 1) := by decide +kernel
theorem dX9_isHere_24 : decode cX9_isHere 24 = .ok (.ireturn, 1) := by decide +kernel
set_option maxRecDepth 20000 in
theorem ggX9_sample_X9_isHere : GoodIn wsX9_sample wsX9_isHere := goodIn_r _ [9, 10, 4, 11, 12, 13, 14, 15, 16, 17, 18, 19, 20, 21, 22, 23, 24, 25, 26, 27, 28, 29, 30] (by decide +kernel) (by decide +kernel)
set_option maxRecDepth 20000 in
theorem gX9_sample_X9_isHere : GoodIn wsX9_sample (wsV RX9 168 RX9 yX9_isHere wsX9_isHere) := goodIn_app (goodIn_of _ (by decide +kernel)) ggX9_sample_X9_isHere
theorem dX9_sample_0 : decode cX9_sample 0 = .ok (.aload_n 0, 1) := by decide +kernel
theorem dX9_sample_1 : decode cX9_sample 1 = .ok (.iload_n 1, 1) := by decide +kernel
theorem dX9_sample_2 : decode cX9_sample 2 = .ok (.invokevirtual 168, 3) := by decide +kernel
theorem dX9_sample_5 : decode cX9_sample 5 = .ok (.ifCond .ne 5, 3) := by decide +kernel
theorem dX9_sample_8 : decode cX9_sample 8 = .ok (.iconst (-1), 1) := by decide +kernel
theorem dX9_sample_9 : decode cX9_sample 9 = .ok (.ireturn, 1) := by decide +kernel
theorem dX9_sample_10 : decode cX9_sample 10 = .ok (.iconst 0, 1) := by decide +kernel
theorem dX9_sample_11 : decode cX9_sample 11 = .ok (.istore_n 3, 1) := by decide +kernel
theorem dX9_sample_12 : decode cX9_sample 12 = .ok (.iload_n 1, 1) := by decide +kernel
theorem dX9_sample_13 : decode cX9_sample 13 = .ok (.istore 4, 2) := by decide +kernel
theorem dX9_sample_15 : decode cX9_sample 15 = .ok (.iload_n 2, 1) := by decide +kernel
theorem dX9_sample_16 : decode cX9_sample 16 = .ok (.tableswitch 139 0 4 #[36, 43, 63, 102, 102], 36) := by decide +kernel
theorem dX9_sample_52 : decode cX9_sample 52 = .ok (.aload_n 0, 1) := by decide +kernel
theorem dX9_sample_53 : decode cX9_sample 53 = .ok (.getfield 13, 3) := by decide +kernel
theorem dX9_sample_56 : decode cX9_sample 56 = .ok (.iload_n 1, 1) := by decide +kernel
theorem dX9_sample_57 : decode cX9_sample 57 = .ok (.iaload, 1) := by decide +kernel
theorem dX9_sample_58 : decode cX9_sample 58 = .ok (.ireturn, 1) := by decide +kernel
theorem dX9_sample_59 : decode cX9_sample 59 = .ok (.aload_n 0, 1) := by decide +kernel
theorem dX9_sample_60 : decode cX9_sample 60 = .ok (.getfield 20, 3) := by decide +kernel
theorem dX9_sample_63 : decode cX9_sample 63 = .ok (.iload_n 1, 1) := by decide +kernel
theorem dX9_sample_64 : decode cX9_sample 64 = .ok (.baload, 1) := by decide +kernel
theorem dX9_sample_65 : decode cX9_sample 65 = .ok (.ifCond .eq 12, 3) := by decide +kernel
theorem dX9_sample_68 : decode cX9_sample 68 = .ok (.aload_n 0, 1) := by decide +kernel
theorem dX9_sample_69 : decode cX9_sample 69 = .ok (.getfield 17, 3) := by decide +kernel
theorem dX9_sample_72 : decode cX9_sample 72 = .ok (.iload_n 1, 1) := by decide +kernel
theorem dX9_sample_73 : decode cX9_sample 73 = .ok (.iaload, 1) := by decide +kernel
theorem dX9_sample_74 : decode cX9_sample 74 = .ok (.goto 4, 3) := by decide +kernel
theorem dX9_sample_77 : decode cX9_sample 77 = .ok (.iconst (-1), 1) := by decide +kernel
theorem dX9_sample_78 : decode cX9_sample 78 = .ok (.ireturn, 1) := by decide +kernel
theorem dX9_sample_79 : decode cX9_sample 79 = .ok (.iconst 1, 1) := by decide +kernel
theorem dX9_sample_80 : decode cX9_sample 80 = .ok (.istore 5, 2) := by decide +kernel
theorem dX9_sample_82 : decode cX9_sample 82 = .ok (.iload 5, 2) := by decide +kernel
theorem dX9_sample_84 : decode cX9_sample 84 = .ok (.aload_n 0, 1) := by decide +kernel
theorem dX9_sample_85 : decode cX9_sample 85 = .ok (.getfield 115, 3) := by decide +kernel
theorem dX9_sample_88 : decode cX9_sample 88 = .ok (.if_icmp .gt 28, 3) := by decide +kernel
theorem dX9_sample_91 : decode cX9_sample 91 = .ok (.iload_n 3, 1) := by decide +kernel
theorem dX9_sample_92 : decode cX9_sample 92 = .ok (.aload_n 0, 1) := by decide +kernel
theorem dX9_sample_93 : decode cX9_sample 93 = .ok (.getfield 13, 3) := by decide +kernel
theorem dX9_sample_96 : decode cX9_sample 96 = .ok (.iload 5, 2) := by decide +kernel
theorem dX9_sample_98 : decode cX9_sample 98 = .ok (.iaload, 1) := by decide +kernel
theorem dX9_sample_99 : decode cX9_sample 99 = .ok (.iload_n 1, 1) := by decide +kernel
theorem dX9_sample_100 : decode cX9_sample 100 = .ok (.if_icmp .ne 7, 3) := by decide +kernel
theorem dX9_sample_103 : decode cX9_sample 103 = .ok (.iconst 1, 1) := by decide +kernel
theorem dX9_sample_104 : decode cX9_sample 104 = .ok (.goto 4, 3) := by decide +kernel
theorem dX9_sample_107 : decode cX9_sample 107 = .ok (.iconst 0, 1) := by decide +kernel
theorem dX9_sample_108 : decode cX9_sample 108 = .ok (.iadd, 1) := by decide +kernel
theorem dX9_sample_109 : decode cX9_sample 109 = .ok (.istore_n 3, 1) := by decide +kernel
theorem dX9_sample_110 : decode cX9_sample 110 = .ok (.iinc 5 1, 3) := by decide +kernel
theorem dX9_sample_113 : decode cX9_sample 113 = .ok (.goto (-31), 3) := by decide +kernel
theorem dX9_sample_116 : decode cX9_sample 116 = .ok (.iload_n 3, 1) := by decide +kernel
theorem dX9_sample_117 : decode cX9_sample 117 = .ok (.ireturn, 1) := by decide +kernel
theorem dX9_sample_118 : decode cX9_sample 118 = .ok (.aload_n 0, 1) := by decide +kernel
theorem dX9_sample_119 : decode cX9_sample 119 = .ok (.getfield 13, 3) := by decide +kernel
theorem dX9_sample_122 : decode cX9_sample 122 = .ok (.iload 4, 2) := by decide +kernel
theorem dX9_sample_124 : decode cX9_sample 124 = .ok (.iaload, 1) := by decide +kernel
theorem dX9_sample_125 : decode cX9_sample 125 = .ok (.ifCond .eq 18, 3) := by decide +kernel
theorem dX9_sample_128 : decode cX9_sample 128 = .ok (.aload_n 0, 1) := by decide +kernel
theorem dX9_sample_129 : decode cX9_sample 129 = .ok (.getfield 13, 3) := by decide +kernel
theorem dX9_sample_132 : decode cX9_sample 132 = .ok (.iload 4, 2) := by decide +kernel
theorem dX9_sample_134 : decode cX9_sample 134 = .ok (.iaload, 1) := by decide +kernel
theorem dX9_sample_135 : decode cX9_sample 135 = .ok (.istore 4, 2) := by decide +kernel
theorem dX9_sample_137 : decode cX9_sample 137 = .ok (.iinc 3 1, 3) := by decide +kernel
theorem dX9_sample_140 : decode cX9_sample 140 = .ok (.goto (-22), 3) := by decide +kernel
theorem dX9_sample_143 : decode cX9_sample 143 = .ok (.iload_n 2, 1) := by decide +kernel
theorem dX9_sample_144 : decode cX9_sample 144 = .ok (.iconst 3, 1) := by decide +kernel
theorem dX9_sample_145 : decode cX9_sample 145 = .ok (.if_icmp .ne 7, 3) := by decide +kernel
theorem dX9_sample_148 : decode cX9_sample 148 = .ok (.iload_n 3, 1) := by decide +kernel
theorem dX9_sample_149 : decode cX9_sample 149 = .ok (.goto 5, 3) := by decide +kernel
theorem dX9_sample_152 : decode cX9_sample 152 = .ok (.iload 4, 2) := by decide +kernel
theorem dX9_sample_154 : decode cX9_sample 154 = .ok (.ireturn, 1) := by decide +kernel
theorem dX9_sample_155 : decode cX9_sample 155 = .ok (.iconst (-1), 1) := by decide +kernel
theorem dX9_sample_156 : decode cX9_sample 156 = .ok (.ireturn, 1) := by decide +kernel
set_option maxRecDepth 20000 in
theorem ggX9_volume_X9_isHere : GoodIn wsX9_volume wsX9_isHere := goodIn_r _ [7, 8, 9, 10, 11, 12, 13, 14, 15, 16, 17, 18, 19, 20, 21, 22, 23, 24, 25, 26, 27, 28, 29] (by decide +kernel) (by decide +kernel)
set_option maxRecDepth 20000 in
theorem gX9_volume_X9_isHere : GoodIn wsX9_volume (wsV RX9 168 RX9 yX9_isHere wsX9_isHere) := goodIn_app (goodIn_of _ (by decide +kernel)) ggX9_volume_X9_isHere
theorem dX9_volume_0 : decode cX9_volume 0 = .ok (.aload_n 0, 1) := by decide +kernel
theorem dX9_volume_1 : decode cX9_volume 1 = .ok (.iload_n 1, 1) := by decide +kernel
theorem dX9_volume_2 : decode cX9_volume 2 = .ok (.invokevirtual 168, 3) := by decide +kernel
theorem dX9_volume_5 : decode cX9_volume 5 = .ok (.ifCond .eq 12, 3) := by decide +kernel
theorem dX9_volume_8 : decode cX9_volume 8 = .ok (.aload_n 0, 1) := by decide +kernel
theorem dX9_volume_9 : decode cX9_volume 9 = .ok (.getfield 24, 3) := by decide +kernel
theorem dX9_volume_12 : decode cX9_volume 12 = .ok (.iload_n 1, 1) := by decide +kernel
theorem dX9_volume_13 : decode cX9_volume 13 = .ok (.laload, 1) := by decide +kernel
theorem dX9_volume_14 : decode cX9_volume 14 = .ok (.goto 6, 3) := by decide +kernel
theorem dX9_volume_17 : decode cX9_volume 17 = .ok (.ldc2_w 171, 3) := by decide +kernel
theorem dX9_volume_20 : decode cX9_volume 20 = .ok (.lreturn, 1) := by decide +kernel
set_option maxRecDepth 20000 in
theorem ggX9_well_X9_isWell : GoodIn wsX9_well wsX9_isWell := goodIn_r _ [5] (by decide +kernel) (by decide +kernel)
set_option maxRecDepth 20000 in
theorem gX9_well_X9_isWell : GoodIn wsX9_well (va_wsS RX9 137 yX9_isWell wsX9_isWell) := goodIn_app (goodIn_of _ (by decide +kernel)) ggX9_well_X9_isWell
set_option maxRecDepth 20000 in
theorem ggX9_well_X9_liveIn : GoodIn wsX9_well wsX9_liveIn := goodIn_r _ [9, 10, 11, 12, 13, 14, 15, 16, 17, 18, 19, 20, 21, 22, 23, 24, 25, 26, 27, 28, 29, 30, 31, 32] (by decide +kernel) (by decide +kernel)
set_option maxRecDepth 20000 in
theorem gX9_well_X9_liveIn : GoodIn wsX9_well (wsV RX9 140 RX9 yX9_liveIn wsX9_liveIn) := goodIn_app (goodIn_of _ (by decide +kernel)) ggX9_well_X9_liveIn
theorem dX9_well_0 : decode cX9_well 0 = .ok (.aload_n 0, 1) := by decide +kernel
theorem dX9_well_1 : decode cX9_well 1 = .ok (.getfield 77, 3) := by decide +kernel
theorem dX9_well_4 : decode cX9_well 4 = .ok (.ifCond .ne 10, 3) := by decide +kernel
theorem dX9_well_7 : decode cX9_well 7 = .ok (.iload_n 1, 1) := by decide +kernel
theorem dX9_well_8 : decode cX9_well 8 = .ok (.invokestatic 137, 3) := by decide +kernel
theorem dX9_well_11 : decode cX9_well 11 = .ok (.ifCond .ne 7, 3) := by decide +kernel
theorem dX9_well_14 : decode cX9_well 14 = .ok (.iconst (-1), 1) := by decide +kernel
theorem dX9_well_15 : decode cX9_well 15 = .ok (.goto 8, 3) := by decide +kernel
theorem dX9_well_18 : decode cX9_well 18 = .ok (.aload_n 0, 1) := by decide +kernel
theorem dX9_well_19 : decode cX9_well 19 = .ok (.iload_n 1, 1) := by decide +kernel
theorem dX9_well_20 : decode cX9_well 20 = .ok (.invokevirtual 140, 3) := by decide +kernel
theorem dX9_well_23 : decode cX9_well 23 = .ok (.ireturn, 1) := by decide +kernel
set_option maxRecDepth 20000 in
theorem ggX9_total_X9_liveVolume : GoodIn wsX9_total wsX9_liveVolume := goodIn_r _ [11, 4, 6, 16, 17, 18, 19, 20, 21, 22, 23, 24, 25, 26, 27, 28, 29, 30, 31, 32, 33, 34, 35] (by decide +kernel) (by decide +kernel)
set_option maxRecDepth 20000 in
theorem gX9_total_X9_liveVolume : GoodIn wsX9_total (wsV RX9 143 RX9 yX9_liveVolume wsX9_liveVolume) := goodIn_app (goodIn_of _ (by decide +kernel)) ggX9_total_X9_liveVolume
set_option maxRecDepth 20000 in
theorem ggX9_total_X9_isHere : GoodIn wsX9_total wsX9_isHere := goodIn_r _ [15, 1, 4, 16, 17, 18, 19, 20, 21, 22, 23, 24, 25, 26, 27, 28, 29, 30, 31, 32, 33, 34, 35] (by decide +kernel) (by decide +kernel)
set_option maxRecDepth 20000 in
theorem gX9_total_X9_isHere : GoodIn wsX9_total (wsV RX9 168 RX9 yX9_isHere wsX9_isHere) := goodIn_app (goodIn_of _ (by decide +kernel)) ggX9_total_X9_isHere
theorem dX9_total_0 : decode cX9_total 0 = .ok (.aload_n 0, 1) := by decide +kernel
theorem dX9_total_1 : decode cX9_total 1 = .ok (.getfield 77, 3) := by decide +kernel
theorem dX9_total_4 : decode cX9_total 4 = .ok (.ifCond .eq 7, 3) := by decide +kernel
theorem dX9_total_7 : decode cX9_total 7 = .ok (.ldc2_w 171, 3) := by decide +kernel
theorem dX9_total_10 : decode cX9_total 10 = .ok (.lreturn, 1) := by decide +kernel
theorem dX9_total_11 : decode cX9_total 11 = .ok (.iload_n 1, 1) := by decide +kernel
theorem dX9_total_12 : decode cX9_total 12 = .ok (.tableswitch 133 0 3 #[32, 37, 42, 52], 32) := by decide +kernel
theorem dX9_total_44 : decode cX9_total 44 = .ok (.aload_n 0, 1) := by decide +kernel
theorem dX9_total_45 : decode cX9_total 45 = .ok (.invokevirtual 143, 3) := by decide +kernel
theorem dX9_total_48 : decode cX9_total 48 = .ok (.lreturn, 1) := by decide +kernel
theorem dX9_total_49 : decode cX9_total 49 = .ok (.aload_n 0, 1) := by decide +kernel
theorem dX9_total_50 : decode cX9_total 50 = .ok (.getfield 118, 3) := by decide +kernel
theorem dX9_total_53 : decode cX9_total 53 = .ok (.lreturn, 1) := by decide +kernel
theorem dX9_total_54 : decode cX9_total 54 = .ok (.aload_n 0, 1) := by decide +kernel
theorem dX9_total_55 : decode cX9_total 55 = .ok (.invokevirtual 143, 3) := by decide +kernel
theorem dX9_total_58 : decode cX9_total 58 = .ok (.aload_n 0, 1) := by decide +kernel
theorem dX9_total_59 : decode cX9_total 59 = .ok (.getfield 118, 3) := by decide +kernel
theorem dX9_total_62 : decode cX9_total 62 = .ok (.ladd, 1) := by decide +kernel
theorem dX9_total_63 : decode cX9_total 63 = .ok (.lreturn, 1) := by decide +kernel
theorem dX9_total_64 : decode cX9_total 64 = .ok (.aload_n 0, 1) := by decide +kernel
theorem dX9_total_65 : decode cX9_total 65 = .ok (.iload_n 2, 1) := by decide +kernel
theorem dX9_total_66 : decode cX9_total 66 = .ok (.invokevirtual 168, 3) := by decide +kernel
theorem dX9_total_69 : decode cX9_total 69 = .ok (.ifCond .ne 7, 3) := by decide +kernel
theorem dX9_total_72 : decode cX9_total 72 = .ok (.ldc2_w 171, 3) := by decide +kernel
theorem dX9_total_75 : decode cX9_total 75 = .ok (.lreturn, 1) := by decide +kernel
theorem dX9_total_76 : decode cX9_total 76 = .ok (.lconst 0, 1) := by decide +kernel
theorem dX9_total_77 : decode cX9_total 77 = .ok (.lstore_n 3, 1) := by decide +kernel
theorem dX9_total_78 : decode cX9_total 78 = .ok (.iconst 1, 1) := by decide +kernel
theorem dX9_total_79 : decode cX9_total 79 = .ok (.istore 5, 2) := by decide +kernel
theorem dX9_total_81 : decode cX9_total 81 = .ok (.iload 5, 2) := by decide +kernel
theorem dX9_total_83 : decode cX9_total 83 = .ok (.aload_n 0, 1) := by decide +kernel
theorem dX9_total_84 : decode cX9_total 84 = .ok (.getfield 115, 3) := by decide +kernel
theorem dX9_total_87 : decode cX9_total 87 = .ok (.if_icmp .gt 56, 3) := by decide +kernel
theorem dX9_total_90 : decode cX9_total 90 = .ok (.iload 5, 2) := by decide +kernel
theorem dX9_total_92 : decode cX9_total 92 = .ok (.istore 6, 2) := by decide +kernel
theorem dX9_total_94 : decode cX9_total 94 = .ok (.iload 6, 2) := by decide +kernel
theorem dX9_total_96 : decode cX9_total 96 = .ok (.iload_n 2, 1) := by decide +kernel
theorem dX9_total_97 : decode cX9_total 97 = .ok (.if_icmp .eq 20, 3) := by decide +kernel
theorem dX9_total_100 : decode cX9_total 100 = .ok (.iload 6, 2) := by decide +kernel
theorem dX9_total_102 : decode cX9_total 102 = .ok (.ifCond .eq 15, 3) := by decide +kernel
theorem dX9_total_105 : decode cX9_total 105 = .ok (.aload_n 0, 1) := by decide +kernel
theorem dX9_total_106 : decode cX9_total 106 = .ok (.getfield 13, 3) := by decide +kernel
theorem dX9_total_109 : decode cX9_total 109 = .ok (.iload 6, 2) := by decide +kernel
theorem dX9_total_111 : decode cX9_total 111 = .ok (.iaload, 1) := by decide +kernel
theorem dX9_total_112 : decode cX9_total 112 = .ok (.istore 6, 2) := by decide +kernel
theorem dX9_total_114 : decode cX9_total 114 = .ok (.goto (-20), 3) := by decide +kernel
theorem dX9_total_117 : decode cX9_total 117 = .ok (.lload_n 3, 1) := by decide +kernel
theorem dX9_total_118 : decode cX9_total 118 = .ok (.iload 6, 2) := by decide +kernel
theorem dX9_total_120 : decode cX9_total 120 = .ok (.iload_n 2, 1) := by decide +kernel
theorem dX9_total_121 : decode cX9_total 121 = .ok (.if_icmp .ne 13, 3) := by decide +kernel
theorem dX9_total_124 : decode cX9_total 124 = .ok (.aload_n 0, 1) := by decide +kernel
theorem dX9_total_125 : decode cX9_total 125 = .ok (.getfield 24, 3) := by decide +kernel
theorem dX9_total_128 : decode cX9_total 128 = .ok (.iload 5, 2) := by decide +kernel
theorem dX9_total_130 : decode cX9_total 130 = .ok (.laload, 1) := by decide +kernel
theorem dX9_total_131 : decode cX9_total 131 = .ok (.goto 4, 3) := by decide +kernel
theorem dX9_total_134 : decode cX9_total 134 = .ok (.lconst 0, 1) := by decide +kernel
theorem dX9_total_135 : decode cX9_total 135 = .ok (.ladd, 1) := by decide +kernel
theorem dX9_total_136 : decode cX9_total 136 = .ok (.lstore_n 3, 1) := by decide +kernel
theorem dX9_total_137 : decode cX9_total 137 = .ok (.iinc 5 1, 3) := by decide +kernel
theorem dX9_total_140 : decode cX9_total 140 = .ok (.goto (-59), 3) := by decide +kernel
theorem dX9_total_143 : decode cX9_total 143 = .ok (.lload_n 3, 1) := by decide +kernel
theorem dX9_total_144 : decode cX9_total 144 = .ok (.lreturn, 1) := by decide +kernel
theorem dX9_total_145 : decode cX9_total 145 = .ok (.ldc2_w 171, 3) := by decide +kernel
theorem dX9_total_148 : decode cX9_total 148 = .ok (.lreturn, 1) := by decide +kernel
set_option maxRecDepth 20000 in
theorem ggX9_count_X9_generation : GoodIn wsX9_count wsX9_generation := goodIn_r _ [14, 15, 16, 17, 13, 18, 19, 20, 21, 22, 23, 24, 25, 26, 27, 28, 29, 30, 31, 32, 33, 34, 35, 36, 37, 38] (by decide +kernel) (by decide +kernel)
set_option maxRecDepth 20000 in
theorem gX9_count_X9_generation : GoodIn wsX9_count (wsV RX9 96 RX9 yX9_generation wsX9_generation) := goodIn_app (goodIn_of _ (by decide +kernel)) ggX9_count_X9_generation
theorem dX9_count_0 : decode cX9_count 0 = .ok (.iconst 0, 1) := by decide +kernel
theorem dX9_count_1 : decode cX9_count 1 = .ok (.istore_n 2, 1) := by decide +kernel
theorem dX9_count_2 : decode cX9_count 2 = .ok (.aload_n 0, 1) := by decide +kernel
theorem dX9_count_3 : decode cX9_count 3 = .ok (.getfield 77, 3) := by decide +kernel
theorem dX9_count_6 : decode cX9_count 6 = .ok (.ifCond .eq 10, 3) := by decide +kernel
theorem dX9_count_9 : decode cX9_count 9 = .ok (.iload_n 1, 1) := by decide +kernel
theorem dX9_count_10 : decode cX9_count 10 = .ok (.iconst 3, 1) := by decide +kernel
theorem dX9_count_11 : decode cX9_count 11 = .ok (.if_icmp .le 5, 3) := by decide +kernel
theorem dX9_count_14 : decode cX9_count 14 = .ok (.iconst (-1), 1) := by decide +kernel
theorem dX9_count_15 : decode cX9_count 15 = .ok (.ireturn, 1) := by decide +kernel
theorem dX9_count_16 : decode cX9_count 16 = .ok (.iload_n 1, 1) := by decide +kernel
theorem dX9_count_17 : decode cX9_count 17 = .ok (.tableswitch 148 0 9 #[55, 68, 73, 78, 83, 88, 98, 103, 108, 143], 55) := by decide +kernel
theorem dX9_count_72 : decode cX9_count 72 = .ok (.aload_n 0, 1) := by decide +kernel
theorem dX9_count_73 : decode cX9_count 73 = .ok (.getfield 77, 3) := by decide +kernel
theorem dX9_count_76 : decode cX9_count 76 = .ok (.ifCond .eq 7, 3) := by decide +kernel
theorem dX9_count_79 : decode cX9_count 79 = .ok (.iconst 0, 1) := by decide +kernel
theorem dX9_count_80 : decode cX9_count 80 = .ok (.goto 4, 3) := by decide +kernel
theorem dX9_count_83 : decode cX9_count 83 = .ok (.iconst 1, 1) := by decide +kernel
theorem dX9_count_84 : decode cX9_count 84 = .ok (.ireturn, 1) := by decide +kernel
theorem dX9_count_85 : decode cX9_count 85 = .ok (.aload_n 0, 1) := by decide +kernel
theorem dX9_count_86 : decode cX9_count 86 = .ok (.getfield 35, 3) := by decide +kernel
theorem dX9_count_89 : decode cX9_count 89 = .ok (.ireturn, 1) := by decide +kernel
theorem dX9_count_90 : decode cX9_count 90 = .ok (.aload_n 0, 1) := by decide +kernel
theorem dX9_count_91 : decode cX9_count 91 = .ok (.getfield 74, 3) := by decide +kernel
theorem dX9_count_94 : decode cX9_count 94 = .ok (.ireturn, 1) := by decide +kernel
theorem dX9_count_95 : decode cX9_count 95 = .ok (.aload_n 0, 1) := by decide +kernel
theorem dX9_count_96 : decode cX9_count 96 = .ok (.getfield 81, 3) := by decide +kernel
theorem dX9_count_99 : decode cX9_count 99 = .ok (.ireturn, 1) := by decide +kernel
theorem dX9_count_100 : decode cX9_count 100 = .ok (.aload_n 0, 1) := by decide +kernel
theorem dX9_count_101 : decode cX9_count 101 = .ok (.getfield 100, 3) := by decide +kernel
theorem dX9_count_104 : decode cX9_count 104 = .ok (.ireturn, 1) := by decide +kernel
theorem dX9_count_105 : decode cX9_count 105 = .ok (.aload_n 0, 1) := by decide +kernel
theorem dX9_count_106 : decode cX9_count 106 = .ok (.aload_n 0, 1) := by decide +kernel
theorem dX9_count_107 : decode cX9_count 107 = .ok (.getfield 100, 3) := by decide +kernel
theorem dX9_count_110 : decode cX9_count 110 = .ok (.invokevirtual 96, 3) := by decide +kernel
theorem dX9_count_113 : decode cX9_count 113 = .ok (.l2i, 1) := by decide +kernel
theorem dX9_count_114 : decode cX9_count 114 = .ok (.ireturn, 1) := by decide +kernel
theorem dX9_count_115 : decode cX9_count 115 = .ok (.aload_n 0, 1) := by decide +kernel
theorem dX9_count_116 : decode cX9_count 116 = .ok (.getfield 103, 3) := by decide +kernel
theorem dX9_count_119 : decode cX9_count 119 = .ok (.ireturn, 1) := by decide +kernel
theorem dX9_count_120 : decode cX9_count 120 = .ok (.aload_n 0, 1) := by decide +kernel
theorem dX9_count_121 : decode cX9_count 121 = .ok (.getfield 115, 3) := by decide +kernel
theorem dX9_count_124 : decode cX9_count 124 = .ok (.ireturn, 1) := by decide +kernel
theorem dX9_count_125 : decode cX9_count 125 = .ok (.iconst 1, 1) := by decide +kernel
theorem dX9_count_126 : decode cX9_count 126 = .ok (.istore_n 3, 1) := by decide +kernel
theorem dX9_count_127 : decode cX9_count 127 = .ok (.iload_n 3, 1) := by decide +kernel
theorem dX9_count_128 : decode cX9_count 128 = .ok (.aload_n 0, 1) := by decide +kernel
theorem dX9_count_129 : decode cX9_count 129 = .ok (.getfield 115, 3) := by decide +kernel
theorem dX9_count_132 : decode cX9_count 132 = .ok (.if_icmp .gt 26, 3) := by decide +kernel
theorem dX9_count_135 : decode cX9_count 135 = .ok (.iload_n 2, 1) := by decide +kernel
theorem dX9_count_136 : decode cX9_count 136 = .ok (.aload_n 0, 1) := by decide +kernel
theorem dX9_count_137 : decode cX9_count 137 = .ok (.getfield 20, 3) := by decide +kernel
theorem dX9_count_140 : decode cX9_count 140 = .ok (.iload_n 3, 1) := by decide +kernel
theorem dX9_count_141 : decode cX9_count 141 = .ok (.baload, 1) := by decide +kernel
theorem dX9_count_142 : decode cX9_count 142 = .ok (.ifCond .eq 7, 3) := by decide +kernel
theorem dX9_count_145 : decode cX9_count 145 = .ok (.iconst 1, 1) := by decide +kernel
theorem dX9_count_146 : decode cX9_count 146 = .ok (.goto 4, 3) := by decide +kernel
theorem dX9_count_149 : decode cX9_count 149 = .ok (.iconst 0, 1) := by decide +kernel
theorem dX9_count_150 : decode cX9_count 150 = .ok (.iadd, 1) := by decide +kernel
theorem dX9_count_151 : decode cX9_count 151 = .ok (.istore_n 2, 1) := by decide +kernel
theorem dX9_count_152 : decode cX9_count 152 = .ok (.iinc 3 1, 3) := by decide +kernel
theorem dX9_count_155 : decode cX9_count 155 = .ok (.goto (-28), 3) := by decide +kernel
theorem dX9_count_158 : decode cX9_count 158 = .ok (.iload_n 2, 1) := by decide +kernel
theorem dX9_count_159 : decode cX9_count 159 = .ok (.ireturn, 1) := by decide +kernel
theorem dX9_count_160 : decode cX9_count 160 = .ok (.aload_n 0, 1) := by decide +kernel
theorem dX9_count_161 : decode cX9_count 161 = .ok (.getfield 109, 3) := by decide +kernel
theorem dX9_count_164 : decode cX9_count 164 = .ok (.ireturn, 1) := by decide +kernel
theorem dX9_count_165 : decode cX9_count 165 = .ok (.iconst (-1), 1) := by decide +kernel
theorem dX9_count_166 : decode cX9_count 166 = .ok (.ireturn, 1) := by decide +kernel
theorem dJ9_max_7cf53_0 : decode cJ9_max_7cf53 0 = .ok (.iload_n 0, 1) := by decide +kernel
theorem dJ9_max_7cf53_1 : decode cJ9_max_7cf53 1 = .ok (.iload_n 1, 1) := by decide +kernel
theorem dJ9_max_7cf53_2 : decode cJ9_max_7cf53 2 = .ok (.if_icmp .lt 7, 3) := by decide +kernel
theorem dJ9_max_7cf53_5 : decode cJ9_max_7cf53 5 = .ok (.iload_n 0, 1) := by decide +kernel
theorem dJ9_max_7cf53_6 : decode cJ9_max_7cf53 6 = .ok (.goto 4, 3) := by decide +kernel
theorem dJ9_max_7cf53_9 : decode cJ9_max_7cf53 9 = .ok (.iload_n 1, 1) := by decide +kernel
theorem dJ9_max_7cf53_10 : decode cJ9_max_7cf53 10 = .ok (.ireturn, 1) := by decide +kernel
theorem dJ9_min_7cf53_0 : decode cJ9_min_7cf53 0 = .ok (.iload_n 0, 1) := by decide +kernel
theorem dJ9_min_7cf53_1 : decode cJ9_min_7cf53 1 = .ok (.iload_n 1, 1) := by decide +kernel
theorem dJ9_min_7cf53_2 : decode cJ9_min_7cf53 2 = .ok (.if_icmp .gt 7, 3) := by decide +kernel
theorem dJ9_min_7cf53_5 : decode cJ9_min_7cf53 5 = .ok (.iload_n 0, 1) := by decide +kernel
theorem dJ9_min_7cf53_6 : decode cJ9_min_7cf53 6 = .ok (.goto 4, 3) := by decide +kernel
theorem dJ9_min_7cf53_9 : decode cJ9_min_7cf53 9 = .ok (.iload_n 1, 1) := by decide +kernel
theorem dJ9_min_7cf53_10 : decode cJ9_min_7cf53 10 = .ok (.ireturn, 1) := by decide +kernel
theorem dL_cell_0 : decode cL_cell 0 = .ok (.iload_n 1, 1) := by decide +kernel
theorem dL_cell_1 : decode cL_cell 1 = .ok (.aload_n 0, 1) := by decide +kernel
theorem dL_cell_2 : decode cL_cell 2 = .ok (.arraylength, 1) := by decide +kernel
theorem dL_cell_3 : decode cL_cell 3 = .ok (.if_icmp .ge 9, 3) := by decide +kernel
theorem dL_cell_6 : decode cL_cell 6 = .ok (.aload_n 0, 1) := by decide +kernel
theorem dL_cell_7 : decode cL_cell 7 = .ok (.iload_n 1, 1) := by decide +kernel
theorem dL_cell_8 : decode cL_cell 8 = .ok (.iaload, 1) := by decide +kernel
theorem dL_cell_9 : decode cL_cell 9 = .ok (.goto 4, 3) := by decide +kernel
theorem dL_cell_12 : decode cL_cell 12 = .ok (.iconst 0, 1) := by decide +kernel
theorem dL_cell_13 : decode cL_cell 13 = .ok (.ireturn, 1) := by decide +kernel
set_option maxRecDepth 20000 in
theorem ggL_law_L_cell : GoodIn wsL_law wsL_cell := goodIn_r _ [10] (by decide +kernel) (by decide +kernel)
set_option maxRecDepth 20000 in
theorem gL_law_L_cell : GoodIn wsL_law (va_wsS RL 9 yL_cell wsL_cell) := goodIn_app (goodIn_of _ (by decide +kernel)) ggL_law_L_cell
set_option maxRecDepth 20000 in
theorem ggL_law_X8_init : GoodIn wsL_law wsX8_init := goodIn_r _ [13, 14, 15, 16, 17, 18, 19, 20, 21, 22, 23, 24, 25, 26, 27, 28, 29, 30, 31, 32, 33, 34, 35, 36, 37, 38, 39, 40, 41, 42, 43, 44, 45, 46, 47, 48, 49, 50, 51, 52, 53, 54, 55, 56, 57, 58, 59, 60, 61, 62, 63, 64, 65, 66, 67, 68, 69, 70, 71, 72, 73, 74, 75, 76, 77, 78, 79, 80, 81, 82, 83, 84, 85, 86, 87, 88, 89, 90, 91, 92, 93, 94, 95, 96, 97, 98, 99, 100, 101, 102, 103, 104, 105, 106, 107, 108, 109, 110, 111, 112, 113, 114, 115, 116, 117, 118, 119, 120, 121, 122, 123, 124, 125, 126, 127, 128, 129, 130, 131, 132, 133, 134, 135, 136, 137, 138, 139, 738, 739, 740, 741, 742, 714, 715, 716, 717, 743, 744, 745, 746, 747, 748, 749, 750, 751, 752, 753, 754, 755, 756, 757, 758, 759, 760, 761, 762, 763, 764, 765, 766, 767, 768, 769, 770] (by decide +kernel) (by decide +kernel)
set_option maxRecDepth 20000 in
theorem gL_law_X8_init : GoodIn wsL_law (wsX8_init) := ggL_law_X8_init
set_option maxRecDepth 20000 in
theorem ggL_law_X9_init : GoodIn wsL_law wsX9_init := goodIn_r _ [142, 143, 15, 16, 144, 111, 145, 146, 116, 147, 114, 148, 70, 149, 150, 151, 152, 153, 154, 155, 156, 157, 5, 158, 159, 160, 161, 162, 163, 164, 165, 166, 167, 168, 169, 170, 171, 172, 173, 174, 175, 176, 177, 178, 179, 180, 181, 182, 183, 184, 185, 186, 187, 188, 189, 190, 191, 192, 193, 194, 195, 718, 719, 720, 721, 722, 723, 724, 725, 726, 727, 728, 729, 730, 731, 732, 733, 734, 735, 736, 737] (by decide +kernel) (by decide +kernel)
set_option maxRecDepth 20000 in
theorem gL_law_X9_init : GoodIn wsL_law (wsX9_init) := ggL_law_X9_init
set_option maxRecDepth 20000 in
theorem ggL_law_X8_register : GoodIn wsL_law wsX8_register := goodIn_r _ [199, 39, 35, 200, 201, 202, 38, 203, 136, 137, 138, 139, 204, 205, 206, 34, 207, 208, 123, 209, 210, 211, 212, 122, 213, 214, 215, 216, 115, 217, 218, 219, 220, 221, 222, 223, 224, 2, 225, 226, 227, 228, 229, 20, 230, 231, 232, 19, 233, 43, 234, 235, 236, 237, 238, 239, 240, 241, 242, 243, 244, 113, 245, 246, 247, 248, 249, 250, 251, 252, 31, 253, 254, 255, 23, 256, 53, 257, 258, 259, 260, 261, 262, 263, 264, 265, 266, 267, 268, 269, 270, 271, 272, 273, 274, 275, 276, 58, 277, 278, 279, 57, 280, 71, 281, 282, 283, 284, 285, 286, 287, 288, 63, 52, 54, 289, 290, 291, 292, 59, 293, 294, 295, 62, 296, 79, 76, 297, 298, 299, 300, 77, 301, 84, 85, 86, 87, 88, 89, 90, 91, 92, 93, 94, 95, 96, 78, 97, 98, 99, 100, 44, 45, 46, 47, 101, 102, 103, 104, 302, 303, 304, 105, 106, 107, 305, 306, 307, 308, 309, 310, 311, 312, 313, 314, 315, 316, 317, 318, 319, 320, 321, 121, 322, 323, 324, 120, 325, 132, 127, 128, 129, 130, 131, 326, 327, 328, 329, 112, 330, 331, 332, 333, 334, 335, 336, 337, 338, 339, 340, 341, 342, 343, 344, 345, 346, 347, 348, 349, 350, 351, 352, 353, 354, 355, 356, 357, 358, 359, 360, 361, 362, 363, 364, 365, 366, 367, 368, 369, 370, 371, 372, 373, 374, 375, 376, 377, 378, 714, 715, 716, 717, 756, 757, 758, 759, 749, 750, 751, 752, 753, 754, 755, 738, 739, 740, 741, 742, 743, 744, 745, 746, 747, 748, 760, 761, 762, 763, 764, 765, 766, 767, 768, 769, 770] (by decide +kernel) (by decide +kernel)
set_option maxRecDepth 20000 in
theorem gL_law_X8_register : GoodIn wsL_law (wsV RL 23 RX8 yX8_register wsX8_register) := goodIn_app (goodIn_of _ (by decide +kernel)) ggL_law_X8_register
set_option maxRecDepth 20000 in
theorem ggL_law_X9_register : GoodIn wsL_law wsX9_register := goodIn_r _ [382, 383, 180, 384, 179, 385, 386, 5, 387, 388, 389, 390, 391, 147, 146, 392, 393, 394, 395, 148, 396, 397, 398, 399, 178, 151, 400, 401, 402, 403, 404, 405, 406, 154, 159, 160, 161, 162, 163, 164, 165, 166, 149, 407, 408, 409, 410, 155, 156, 157, 158, 411, 412, 413, 414, 175, 415, 416, 417, 418, 167, 168, 169, 170, 419, 420, 421, 422, 423, 424, 425, 426, 144, 153, 427, 428, 429, 430, 431, 432, 171, 172, 173, 174, 176, 177, 150, 181, 182, 183, 184, 185, 186, 187, 188, 189, 190, 191, 192, 193, 194, 195, 145, 718, 719, 720, 721, 722, 723, 724, 725, 726, 727, 728, 729, 730, 731, 732, 733, 734, 735, 736, 737] (by decide +kernel) (by decide +kernel)
set_option maxRecDepth 20000 in
theorem gL_law_X9_register : GoodIn wsL_law (wsV RL 27 RX9 yX9_register wsX9_register) := goodIn_app (goodIn_of _ (by decide +kernel)) ggL_law_X9_register
set_option maxRecDepth 20000 in
theorem ggL_law_X8_aliquot : GoodIn wsL_law wsX8_aliquot := goodIn_r _ [436, 39, 35, 200, 201, 202, 38, 203, 136, 137, 138, 139, 437, 438, 439, 34, 440, 241, 242, 243, 244, 113, 218, 219, 220, 221, 122, 441, 214, 215, 216, 115, 217, 222, 223, 224, 2, 225, 226, 227, 228, 229, 20, 230, 231, 232, 19, 233, 43, 234, 235, 236, 237, 238, 239, 240, 245, 246, 247, 248, 249, 250, 251, 252, 31, 253, 254, 255, 23, 256, 53, 257, 258, 259, 260, 261, 262, 263, 264, 265, 266, 267, 268, 269, 270, 271, 272, 273, 274, 275, 276, 58, 277, 278, 279, 57, 280, 71, 281, 282, 283, 284, 285, 286, 287, 288, 63, 52, 54, 289, 290, 291, 292, 59, 293, 294, 295, 62, 296, 79, 76, 297, 298, 299, 300, 77, 301, 84, 85, 86, 87, 88, 89, 90, 91, 92, 93, 94, 95, 96, 78, 97, 98, 99, 100, 44, 45, 46, 47, 101, 102, 103, 104, 302, 303, 304, 105, 106, 107, 305, 306, 307, 308, 309, 310, 311, 312, 313, 123, 314, 315, 316, 317, 318, 319, 320, 321, 121, 213, 322, 323, 324, 120, 325, 132, 127, 128, 129, 130, 131, 326, 327, 328, 329, 112, 330, 331, 332, 333, 334, 335, 336, 337, 338, 339, 340, 341, 342, 343, 344, 345, 346, 347, 348, 349, 350, 351, 352, 353, 354, 355, 356, 357, 358, 359, 360, 361, 362, 363, 364, 365, 366, 367, 368, 369, 370, 371, 372, 373, 374, 375, 376, 377, 378, 714, 715, 716, 717, 756, 757, 758, 759, 749, 750, 751, 752, 753, 754, 755, 738, 739, 740, 741, 742, 743, 744, 745, 746, 747, 748, 760, 761, 762, 763, 764, 765, 766, 767, 768, 769, 770] (by decide +kernel) (by decide +kernel)
set_option maxRecDepth 20000 in
theorem gL_law_X8_aliquot : GoodIn wsL_law (wsV RL 28 RX8 yX8_aliquot wsX8_aliquot) := goodIn_app (goodIn_of _ (by decide +kernel)) ggL_law_X8_aliquot
set_option maxRecDepth 20000 in
theorem ggL_law_X9_aliquot : GoodIn wsL_law wsX9_aliquot := goodIn_r _ [445, 383, 148, 179, 446, 447, 448, 5, 449, 147, 385, 386, 387, 388, 389, 390, 391, 146, 396, 397, 398, 399, 178, 151, 400, 401, 402, 403, 404, 405, 406, 154, 159, 160, 161, 162, 163, 164, 165, 166, 149, 407, 408, 409, 410, 155, 156, 157, 158, 411, 412, 413, 414, 175, 415, 416, 417, 418, 167, 168, 169, 170, 419, 420, 421, 422, 423, 424, 425, 426, 144, 153, 427, 428, 429, 430, 431, 432, 171, 172, 173, 174, 176, 177, 150, 180, 181, 182, 183, 184, 185, 186, 187, 188, 189, 190, 191, 192, 193, 194, 195, 145, 718, 719, 720, 721, 722, 723, 724, 725, 726, 727, 728, 729, 730, 731, 732, 733, 734, 735, 736, 737] (by decide +kernel) (by decide +kernel)
set_option maxRecDepth 20000 in
theorem gL_law_X9_aliquot : GoodIn wsL_law (wsV RL 32 RX9 yX9_aliquot wsX9_aliquot) := goodIn_app (goodIn_of _ (by decide +kernel)) ggL_law_X9_aliquot
set_option maxRecDepth 20000 in
theorem ggL_law_X8_move : GoodIn wsL_law wsX8_move := goodIn_r _ [453, 39, 35, 200, 201, 202, 38, 203, 136, 137, 138, 139, 437, 438, 439, 34, 440, 241, 242, 243, 244, 113, 218, 219, 220, 221, 122, 226, 227, 228, 2, 229, 20, 230, 231, 232, 19, 233, 43, 234, 235, 236, 237, 238, 239, 240, 249, 250, 251, 252, 31, 253, 254, 255, 23, 256, 53, 257, 258, 259, 260, 261, 262, 263, 264, 265, 266, 267, 268, 269, 270, 271, 272, 273, 274, 275, 276, 58, 277, 278, 279, 57, 280, 71, 281, 282, 283, 284, 285, 286, 287, 288, 63, 52, 54, 289, 290, 291, 292, 59, 293, 294, 295, 62, 296, 79, 76, 297, 298, 299, 300, 77, 301, 84, 85, 86, 87, 88, 89, 90, 91, 92, 93, 94, 95, 96, 78, 97, 98, 99, 100, 44, 45, 46, 47, 101, 102, 103, 104, 302, 303, 304, 105, 106, 107, 305, 306, 307, 308, 309, 310, 311, 312, 313, 123, 314, 315, 316, 317, 318, 319, 320, 321, 121, 213, 214, 215, 216, 115, 217, 322, 323, 324, 120, 325, 132, 127, 128, 129, 130, 131, 326, 327, 328, 329, 112, 330, 246, 247, 248, 331, 332, 333, 334, 335, 336, 337, 338, 339, 340, 341, 342, 343, 344, 345, 346, 347, 348, 349, 350, 351, 352, 353, 354, 355, 356, 357, 358, 359, 360, 361, 362, 363, 364, 365, 366, 367, 368, 369, 370, 371, 372, 373, 374, 714, 715, 716, 717, 756, 757, 758, 759, 749, 750, 751, 752, 753, 754, 755, 738, 739, 740, 741, 742, 743, 744, 745, 746, 747, 748, 760, 761, 762, 763, 764, 765, 766, 767, 768, 769, 770] (by decide +kernel) (by decide +kernel)
set_option maxRecDepth 20000 in
theorem gL_law_X8_move : GoodIn wsL_law (wsV RL 33 RX8 yX8_move wsX8_move) := goodIn_app (goodIn_of _ (by decide +kernel)) ggL_law_X8_move
set_option maxRecDepth 20000 in
theorem ggL_law_X9_move : GoodIn wsL_law wsX9_move := goodIn_r _ [457, 383, 446, 447, 448, 5, 449, 179, 147, 385, 386, 387, 388, 389, 390, 391, 146, 396, 397, 398, 399, 178, 151, 400, 401, 402, 403, 404, 405, 406, 154, 159, 160, 161, 162, 163, 164, 165, 166, 149, 411, 412, 413, 414, 175, 415, 416, 417, 418, 167, 168, 169, 170, 155, 156, 157, 158, 419, 420, 421, 422, 423, 424, 425, 426, 144, 153, 427, 428, 429, 430, 431, 432, 171, 172, 173, 174, 176, 177, 150, 180, 181, 182, 183, 184, 185, 186, 187, 188, 189, 190, 191, 148, 192, 193, 194, 195, 145, 718, 719, 720, 721, 722, 723, 724, 725, 726, 727, 728, 729, 730, 731, 732, 733, 734, 735, 736, 737] (by decide +kernel) (by decide +kernel)
set_option maxRecDepth 20000 in
theorem gL_law_X9_move : GoodIn wsL_law (wsV RL 37 RX9 yX9_move wsX9_move) := goodIn_app (goodIn_of _ (by decide +kernel)) ggL_law_X9_move
set_option maxRecDepth 20000 in
theorem ggL_law_X8_discard : GoodIn wsL_law wsX8_discard := goodIn_r _ [461, 39, 20, 35, 200, 201, 202, 38, 203, 136, 137, 138, 139, 230, 231, 232, 19, 233, 43, 437, 438, 439, 34, 440, 241, 242, 243, 244, 113, 218, 219, 220, 221, 122, 249, 250, 251, 2, 252, 31, 253, 254, 255, 23, 256, 53, 257, 258, 259, 260, 261, 262, 263, 264, 265, 266, 267, 268, 269, 270, 271, 272, 273, 274, 275, 276, 58, 277, 278, 279, 57, 280, 71, 281, 282, 283, 284, 285, 286, 287, 288, 63, 52, 54, 289, 290, 291, 292, 59, 293, 294, 295, 62, 296, 79, 76, 297, 298, 299, 300, 77, 301, 84, 85, 86, 87, 88, 89, 90, 91, 92, 93, 94, 95, 96, 78, 97, 98, 99, 100, 44, 45, 46, 47, 101, 102, 103, 104, 302, 303, 304, 105, 106, 107, 305, 306, 307, 308, 309, 310, 311, 312, 313, 123, 314, 315, 316, 317, 318, 319, 320, 321, 121, 213, 214, 215, 216, 115, 217, 322, 323, 324, 120, 325, 132, 127, 128, 129, 130, 131, 326, 327, 328, 329, 112, 330, 246, 247, 248, 331, 332, 333, 334, 335, 336, 337, 338, 339, 340, 341, 342, 343, 344, 345, 346, 347, 348, 349, 350, 351, 352, 353, 354, 355, 356, 357, 358, 359, 360, 361, 362, 363, 364, 365, 366, 367, 368, 369, 370, 371, 372, 373, 374, 714, 715, 716, 717, 756, 757, 758, 759, 738, 739, 740, 741, 742, 749, 750, 751, 752, 753, 754, 755, 743, 744, 745, 746, 747, 748, 760, 761, 762, 763, 764, 765, 766, 767, 768, 769, 770] (by decide +kernel) (by decide +kernel)
set_option maxRecDepth 20000 in
theorem gL_law_X8_discard : GoodIn wsL_law (wsV RL 38 RX8 yX8_discard wsX8_discard) := goodIn_app (goodIn_of _ (by decide +kernel)) ggL_law_X8_discard
set_option maxRecDepth 20000 in
theorem ggL_law_X9_discard : GoodIn wsL_law wsX9_discard := goodIn_r _ [465, 383, 446, 447, 448, 5, 449, 179, 147, 396, 397, 398, 399, 178, 151, 400, 401, 402, 403, 404, 405, 406, 154, 159, 160, 161, 162, 163, 164, 165, 166, 149, 411, 412, 413, 414, 175, 415, 416, 417, 418, 167, 168, 169, 170, 155, 156, 157, 158, 419, 420, 421, 422, 423, 424, 425, 426, 144, 153, 427, 428, 429, 430, 431, 432, 171, 172, 173, 174, 176, 177, 150, 180, 181, 182, 183, 184, 185, 186, 187, 188, 189, 190, 191, 148, 146, 192, 193, 194, 195, 145, 718, 719, 720, 721, 722, 723, 724, 725, 726, 727, 728, 729, 730, 731, 732, 733, 734, 735, 736, 737] (by decide +kernel) (by decide +kernel)
set_option maxRecDepth 20000 in
theorem gL_law_X9_discard : GoodIn wsL_law (wsV RL 42 RX9 yX9_discard wsX9_discard) := goodIn_app (goodIn_of _ (by decide +kernel)) ggL_law_X9_discard
set_option maxRecDepth 20000 in
theorem ggL_law_X8_undo : GoodIn wsL_law wsX8_undo := goodIn_r _ [469, 39, 20, 35, 200, 201, 202, 38, 203, 136, 137, 138, 139, 230, 231, 232, 19, 233, 43, 249, 250, 251, 2, 252, 31, 253, 254, 255, 23, 256, 53, 257, 258, 259, 260, 261, 262, 263, 264, 265, 266, 267, 268, 269, 270, 271, 272, 273, 274, 275, 276, 58, 277, 278, 279, 57, 280, 71, 470, 471, 472, 34, 473, 121, 474, 475, 476, 120, 477, 132, 281, 282, 283, 284, 285, 286, 287, 288, 63, 52, 54, 289, 290, 291, 292, 59, 293, 294, 295, 62, 296, 79, 76, 297, 298, 299, 300, 77, 301, 84, 85, 86, 87, 88, 89, 90, 91, 92, 93, 94, 95, 96, 78, 97, 98, 99, 100, 44, 45, 46, 47, 101, 102, 103, 104, 302, 303, 304, 105, 106, 107, 305, 306, 307, 308, 309, 310, 311, 312, 313, 123, 314, 315, 316, 317, 318, 319, 320, 321, 122, 241, 242, 243, 244, 113, 218, 219, 220, 221, 213, 214, 215, 216, 115, 217, 322, 323, 324, 325, 127, 128, 129, 130, 131, 326, 327, 328, 329, 112, 330, 246, 247, 248, 331, 332, 333, 334, 335, 336, 337, 338, 339, 340, 341, 342, 343, 344, 345, 346, 347, 348, 349, 350, 351, 352, 353, 354, 355, 356, 357, 358, 359, 360, 361, 362, 363, 364, 365, 366, 367, 368, 369, 370, 371, 372, 373, 374, 714, 715, 716, 717, 756, 757, 758, 759, 738, 739, 740, 741, 742, 743, 744, 745, 746, 747, 748, 760, 749, 750, 751, 752, 753, 754, 755, 765, 766, 767, 768, 769, 770, 761, 762, 763, 764] (by decide +kernel) (by decide +kernel)
set_option maxRecDepth 20000 in
theorem gL_law_X8_undo : GoodIn wsL_law (wsV RL 43 RX8 yX8_undo wsX8_undo) := goodIn_app (goodIn_of _ (by decide +kernel)) ggL_law_X8_undo
set_option maxRecDepth 20000 in
theorem ggL_law_X9_undo : GoodIn wsL_law wsX9_undo := goodIn_r _ [481, 383, 177, 396, 397, 398, 5, 399, 178, 151, 400, 401, 402, 403, 404, 405, 406, 154, 159, 160, 161, 162, 163, 164, 165, 166, 149, 411, 412, 413, 414, 175, 415, 416, 417, 418, 167, 168, 169, 170, 155, 156, 157, 158, 419, 420, 421, 422, 423, 424, 425, 426, 144, 153, 427, 428, 429, 430, 431, 432, 171, 172, 173, 174, 176, 150, 179, 180, 181, 182, 183, 184, 185, 186, 187, 188, 189, 190, 191, 148, 146, 147, 192, 193, 194, 195, 145, 718, 719, 720, 721, 722, 723, 724, 725, 726, 727, 728, 729, 730, 731, 732, 733, 734, 735, 736, 737] (by decide +kernel) (by decide +kernel)
set_option maxRecDepth 20000 in
theorem gL_law_X9_undo : GoodIn wsL_law (wsV RL 47 RX9 yX9_undo wsX9_undo) := goodIn_app (goodIn_of _ (by decide +kernel)) ggL_law_X9_undo
set_option maxRecDepth 20000 in
theorem ggL_law_X8_compact : GoodIn wsL_law wsX8_compact := goodIn_r _ [485, 20, 31, 35, 39, 230, 231, 232, 19, 233, 43, 375, 376, 377, 34, 378, 122, 486, 487, 488, 23, 489, 273, 274, 275, 276, 58, 277, 278, 279, 57, 280, 71, 490, 491, 492, 493, 52, 63, 54, 53, 289, 290, 291, 292, 59, 293, 294, 295, 62, 296, 79, 76, 494, 495, 496, 497, 93, 94, 95, 96, 78, 97, 98, 99, 100, 44, 45, 46, 47, 101, 102, 103, 104, 498, 499, 500, 501, 123, 502, 201, 202, 38, 203, 136, 137, 138, 139, 297, 298, 299, 300, 77, 301, 258, 259, 260, 261, 262, 263, 264, 265, 266, 267, 268, 269, 270, 271, 272, 84, 85, 86, 87, 88, 89, 90, 91, 92, 302, 303, 304, 105, 106, 107, 503, 504, 438, 439, 440, 241, 242, 243, 244, 113, 218, 219, 220, 221, 505, 506, 507, 508, 509, 112, 510, 214, 215, 216, 115, 217, 306, 307, 308, 309, 511, 512, 513, 514, 515, 516, 517, 518, 519, 520, 521, 522, 80, 81, 82, 83, 305, 523, 524, 525, 526, 121, 527, 528, 529, 120, 530, 132, 714, 715, 716, 717, 738, 739, 740, 741, 742, 749, 750, 751, 752, 753, 754, 755, 743, 744, 745, 746, 747, 748, 760, 761, 762, 763, 764, 756, 757, 758, 759, 765, 766, 767, 768, 769, 770] (by decide +kernel) (by decide +kernel)
set_option maxRecDepth 20000 in
theorem gL_law_X8_compact : GoodIn wsL_law (wsV RL 48 RX8 yX8_compact wsX8_compact) := goodIn_app (goodIn_of _ (by decide +kernel)) ggL_law_X8_compact
set_option maxRecDepth 20000 in
theorem ggL_law_X9_compact : GoodIn wsL_law wsX9_compact := goodIn_r _ [534, 383, 175, 179, 151, 180, 154, 145, 147, 146, 148, 149, 400, 401, 5, 402, 423, 424, 425, 426, 144, 153, 427, 428, 429, 430, 431, 432, 403, 404, 405, 406, 159, 160, 161, 162, 163, 164, 165, 166, 407, 408, 409, 410, 155, 156, 157, 158, 415, 416, 417, 418, 167, 168, 169, 170, 419, 420, 421, 422, 535, 536, 537, 538, 185, 186, 187, 171, 172, 173, 174, 176, 177, 150, 178, 181, 182, 183, 184, 188, 189, 190, 191, 192, 193, 194, 195, 718, 719, 720, 721, 722, 723, 724, 725, 726, 727, 728, 729, 730, 731, 732, 733, 734, 735, 736, 737] (by decide +kernel) (by decide +kernel)
set_option maxRecDepth 20000 in
theorem gL_law_X9_compact : GoodIn wsL_law (wsV RL 51 RX9 yX9_compact wsX9_compact) := goodIn_app (goodIn_of _ (by decide +kernel)) ggL_law_X9_compact
set_option maxRecDepth 20000 in
theorem ggL_law_X8_cut : GoodIn wsL_law wsX8_cut := goodIn_r _ [542, 20, 230, 231, 232, 19, 233, 43, 543, 544, 545, 546, 44, 45, 714, 715, 716, 717, 738, 739, 740, 741, 742] (by decide +kernel) (by decide +kernel)
set_option maxRecDepth 20000 in
theorem gL_law_X8_cut : GoodIn wsL_law (wsV RL 52 RX8 yX8_cut wsX8_cut) := goodIn_app (goodIn_of _ (by decide +kernel)) ggL_law_X8_cut
set_option maxRecDepth 20000 in
theorem ggL_law_X9_cut : GoodIn wsL_law wsX9_cut := goodIn_r _ [550, 383, 144, 718, 719, 720, 721, 722, 723, 724, 725, 726, 727, 728, 729, 730, 731, 732, 733, 734, 735, 736, 737] (by decide +kernel) (by decide +kernel)
set_option maxRecDepth 20000 in
theorem gL_law_X9_cut : GoodIn wsL_law (wsV RL 55 RX9 yX9_cut wsX9_cut) := goodIn_app (goodIn_of _ (by decide +kernel)) ggL_law_X9_cut
set_option maxRecDepth 20000 in
theorem ggL_law_X8_recover : GoodIn wsL_law wsX8_recover := goodIn_r _ [554, 20, 31, 35, 39, 555, 556, 557, 19, 558, 43, 44, 559, 560, 561, 23, 562, 58, 59, 52, 53, 563, 564, 565, 57, 566, 567, 568, 569, 570, 519, 520, 521, 522, 71, 571, 89, 90, 91, 92, 572, 516, 517, 518, 573, 106, 107, 515, 574, 575, 576, 34, 577, 122, 123, 121, 527, 528, 529, 120, 530, 132, 578, 579, 580, 581, 289, 290, 291, 292, 582, 583, 584, 585, 586, 587, 588, 38, 589, 136, 137, 138, 139, 590, 261, 262, 263, 264, 591, 265, 266, 267, 268, 269, 270, 271, 272, 310, 311, 312, 313, 314, 315, 316, 317, 318, 319, 320, 321, 241, 242, 243, 244, 113, 218, 219, 220, 221, 213, 214, 215, 216, 115, 217, 322, 323, 324, 325, 127, 128, 129, 130, 131, 326, 327, 328, 329, 112, 330, 246, 247, 248, 331, 332, 333, 334, 335, 336, 337, 338, 339, 340, 341, 342, 343, 344, 345, 346, 347, 348, 349, 350, 351, 352, 353, 354, 355, 356, 357, 358, 359, 360, 361, 362, 363, 364, 365, 366, 367, 368, 369, 370, 371, 372, 373, 374, 592, 593, 594, 595, 596, 597, 598, 599, 69, 29, 26, 30, 714, 715, 716, 717, 738, 739, 740, 741, 742, 743, 744, 745, 746, 747, 748, 760, 749, 750, 751, 752, 753, 754, 755, 765, 766, 767, 768, 769, 770, 756, 757, 758, 759] (by decide +kernel) (by decide +kernel)
set_option maxRecDepth 20000 in
theorem gL_law_X8_recover : GoodIn wsL_law (wsV RL 56 RX8 yX8_recover wsX8_recover) := goodIn_app (goodIn_of _ (by decide +kernel)) ggL_law_X8_recover
set_option maxRecDepth 20000 in
theorem ggL_law_X9_recover : GoodIn wsL_law wsX9_recover := goodIn_r _ [603, 175, 178, 151, 153, 383, 144, 176, 604, 605, 606, 5, 607, 185, 186, 187, 167, 168, 169, 170, 535, 536, 537, 538, 171, 172, 173, 174, 177, 150, 179, 180, 181, 182, 183, 184, 188, 189, 190, 191, 148, 146, 147, 192, 193, 194, 195, 145, 718, 719, 720, 721, 722, 723, 724, 725, 726, 727, 728, 729, 730, 731, 732, 733, 734, 735, 736, 737] (by decide +kernel) (by decide +kernel)
set_option maxRecDepth 20000 in
theorem gL_law_X9_recover : GoodIn wsL_law (wsV RL 59 RX9 yX9_recover wsX9_recover) := goodIn_app (goodIn_of _ (by decide +kernel)) ggL_law_X9_recover
set_option maxRecDepth 20000 in
theorem ggL_law_X8_octet : GoodIn wsL_law wsX8_octet := goodIn_r _ [611, 31, 612, 290, 291, 23, 292, 58, 59, 613, 520, 521, 57, 522, 71, 714, 715, 716, 717, 743, 744, 745, 746, 747, 748, 760] (by decide +kernel) (by decide +kernel)
set_option maxRecDepth 20000 in
theorem gL_law_X8_octet : GoodIn wsL_law (wsV RL 60 RX8 yX8_octet wsX8_octet) := goodIn_app (goodIn_of _ (by decide +kernel)) ggL_law_X8_octet
set_option maxRecDepth 20000 in
theorem ggL_law_X9_octet : GoodIn wsL_law wsX9_octet := goodIn_r _ [617, 151, 153, 718, 719, 720, 721, 722, 723, 724, 725, 726, 727, 728, 729, 730, 731, 732, 733, 734, 735, 736, 737] (by decide +kernel) (by decide +kernel)
set_option maxRecDepth 20000 in
theorem gL_law_X9_octet : GoodIn wsL_law (wsV RL 63 RX9 yX9_octet wsX9_octet) := goodIn_app (goodIn_of _ (by decide +kernel)) ggL_law_X9_octet
set_option maxRecDepth 20000 in
theorem ggL_law_X8_sample : GoodIn wsL_law wsX8_sample := goodIn_r _ [621, 20, 35, 230, 231, 232, 19, 233, 43, 622, 219, 220, 34, 221, 122, 623, 507, 508, 509, 112, 218, 624, 242, 243, 244, 113, 625, 626, 627, 628, 629, 630, 631, 632, 633, 634, 635, 636, 637, 638, 714, 715, 716, 717, 738, 739, 740, 741, 742, 749, 750, 751, 752, 753, 754, 755] (by decide +kernel) (by decide +kernel)
set_option maxRecDepth 20000 in
theorem gL_law_X8_sample : GoodIn wsL_law (wsV RL 64 RX8 yX8_sample wsX8_sample) := goodIn_app (goodIn_of _ (by decide +kernel)) ggL_law_X8_sample
set_option maxRecDepth 20000 in
theorem ggL_law_X9_sample : GoodIn wsL_law wsX9_sample := goodIn_r _ [642, 145, 147, 146, 179, 643, 644, 645, 5, 646, 383, 718, 719, 720, 721, 722, 723, 724, 725, 726, 727, 728, 729, 730, 731, 732, 733, 734, 735, 736, 737] (by decide +kernel) (by decide +kernel)
set_option maxRecDepth 20000 in
theorem gL_law_X9_sample : GoodIn wsL_law (wsV RL 67 RX9 yX9_sample wsX9_sample) := goodIn_app (goodIn_of _ (by decide +kernel)) ggL_law_X9_sample
set_option maxRecDepth 20000 in
theorem ggL_law_X8_volume : GoodIn wsL_law wsX8_volume := goodIn_r _ [650, 20, 35, 651, 230, 231, 232, 19, 233, 43, 441, 214, 215, 34, 216, 115, 217, 218, 219, 220, 221, 122, 714, 715, 716, 717, 738, 739, 740, 741, 742, 749, 750, 751, 752, 753, 754, 755] (by decide +kernel) (by decide +kernel)
set_option maxRecDepth 20000 in
theorem gL_law_X8_volume : GoodIn wsL_law (wsV RL 68 RX8 yX8_volume wsX8_volume) := goodIn_app (goodIn_of _ (by decide +kernel)) ggL_law_X8_volume
set_option maxRecDepth 20000 in
theorem ggL_law_X9_volume : GoodIn wsL_law wsX9_volume := goodIn_r _ [655, 148, 656, 643, 644, 645, 5, 646, 383, 179, 718, 719, 720, 721, 722, 723, 724, 725, 726, 727, 728, 729, 730, 731, 732, 733, 734, 735, 736, 737] (by decide +kernel) (by decide +kernel)
set_option maxRecDepth 20000 in
theorem gL_law_X9_volume : GoodIn wsL_law (wsV RL 72 RX9 yX9_volume wsX9_volume) := goodIn_app (goodIn_of _ (by decide +kernel)) ggL_law_X9_volume
set_option maxRecDepth 20000 in
theorem ggL_law_X8_well : GoodIn wsL_law wsX8_well := goodIn_r _ [660, 20, 35, 230, 231, 232, 19, 233, 43, 237, 238, 239, 34, 240, 122, 235, 2, 236, 241, 242, 243, 244, 113, 218, 219, 220, 221, 714, 715, 716, 717, 738, 739, 740, 741, 742, 749, 750, 751, 752, 753, 754, 755] (by decide +kernel) (by decide +kernel)
set_option maxRecDepth 20000 in
theorem gL_law_X8_well : GoodIn wsL_law (wsV RL 73 RX8 yX8_well wsX8_well) := goodIn_app (goodIn_of _ (by decide +kernel)) ggL_law_X8_well
set_option maxRecDepth 20000 in
theorem ggL_law_X9_well : GoodIn wsL_law wsX9_well := goodIn_r _ [664, 383, 385, 386, 5, 387, 388, 389, 390, 391, 179, 147, 146, 718, 719, 720, 721, 722, 723, 724, 725, 726, 727, 728, 729, 730, 731, 732, 733, 734, 735, 736, 737] (by decide +kernel) (by decide +kernel)
set_option maxRecDepth 20000 in
theorem gL_law_X9_well : GoodIn wsL_law (wsV RL 76 RX9 yX9_well wsX9_well) := goodIn_app (goodIn_of _ (by decide +kernel)) ggL_law_X9_well
set_option maxRecDepth 20000 in
theorem ggL_law_X8_total : GoodIn wsL_law wsX8_total := goodIn_r _ [668, 20, 651, 35, 230, 231, 232, 19, 233, 43, 669, 210, 211, 34, 212, 122, 213, 214, 215, 216, 115, 217, 218, 219, 220, 221, 670, 499, 500, 501, 123, 671, 672, 673, 674, 117, 629, 507, 508, 509, 112, 714, 715, 716, 717, 738, 739, 740, 741, 742, 749, 750, 751, 752, 753, 754, 755] (by decide +kernel) (by decide +kernel)
set_option maxRecDepth 20000 in
theorem gL_law_X8_total : GoodIn wsL_law (wsV RL 77 RX8 yX8_total wsX8_total) := goodIn_app (goodIn_of _ (by decide +kernel)) ggL_law_X8_total
set_option maxRecDepth 20000 in
theorem ggL_law_X9_total : GoodIn wsL_law wsX9_total := goodIn_r _ [678, 383, 656, 180, 179, 145, 148, 392, 393, 394, 5, 395, 643, 644, 645, 646, 718, 719, 720, 721, 722, 723, 724, 725, 726, 727, 728, 729, 730, 731, 732, 733, 734, 735, 736, 737] (by decide +kernel) (by decide +kernel)
set_option maxRecDepth 20000 in
theorem gL_law_X9_total : GoodIn wsL_law (wsV RL 81 RX9 yX9_total wsX9_total) := goodIn_app (goodIn_of _ (by decide +kernel)) ggL_law_X9_total
set_option maxRecDepth 20000 in
theorem ggL_law_X8_count : GoodIn wsL_law wsX8_count := goodIn_r _ [682, 20, 31, 230, 231, 232, 19, 233, 43, 683, 274, 275, 23, 276, 58, 277, 278, 279, 57, 280, 71, 684, 685, 686, 687, 46, 688, 689, 690, 691, 47, 692, 693, 694, 2, 695, 35, 696, 697, 698, 699, 52, 700, 512, 513, 514, 289, 290, 291, 292, 59, 515, 516, 517, 518, 519, 520, 521, 522, 701, 702, 703, 704, 53, 375, 376, 377, 34, 378, 122, 705, 706, 707, 708, 709, 438, 439, 440, 241, 242, 243, 244, 113, 218, 219, 220, 221, 470, 471, 472, 473, 121, 474, 475, 476, 120, 477, 132, 714, 715, 716, 717, 738, 739, 740, 741, 742, 743, 744, 745, 746, 747, 748, 760, 749, 750, 751, 752, 753, 754, 755, 765, 766, 767, 768, 769, 770] (by decide +kernel) (by decide +kernel)
set_option maxRecDepth 20000 in
theorem gL_law_X8_count : GoodIn wsL_law (wsV RL 82 RX8 yX8_count wsX8_count) := goodIn_app (goodIn_of _ (by decide +kernel)) ggL_law_X8_count
set_option maxRecDepth 20000 in
theorem ggL_law_X9_count : GoodIn wsL_law wsX9_count := goodIn_r _ [713, 383, 151, 427, 432, 175, 178, 179, 147, 177, 535, 536, 537, 5, 538, 153, 185, 186, 187, 718, 719, 720, 721, 722, 723, 724, 725, 726, 727, 728, 729, 730, 731, 732, 733, 734, 735, 736, 737] (by decide +kernel) (by decide +kernel)
set_option maxRecDepth 20000 in
theorem gL_law_X9_count : GoodIn wsL_law (wsV RL 85 RX9 yX9_count wsX9_count) := goodIn_app (goodIn_of _ (by decide +kernel)) ggL_law_X9_count
theorem dL_law_0 : decode cL_law 0 = .ok (.new 7, 3) := by decide +kernel
theorem dL_law_3 : decode cL_law 3 = .ok (.dup, 1) := by decide +kernel
theorem dL_law_4 : decode cL_law 4 = .ok (.aload_n 0, 1) := by decide +kernel
theorem dL_law_5 : decode cL_law 5 = .ok (.iconst 0, 1) := by decide +kernel
theorem dL_law_6 : decode cL_law 6 = .ok (.invokestatic 9, 3) := by decide +kernel
theorem dL_law_9 : decode cL_law 9 = .ok (.invokespecial 15, 3) := by decide +kernel
theorem dL_law_12 : decode cL_law 12 = .ok (.astore_n 1, 1) := by decide +kernel
theorem dL_law_13 : decode cL_law 13 = .ok (.new 18, 3) := by decide +kernel
theorem dL_law_16 : decode cL_law 16 = .ok (.dup, 1) := by decide +kernel
theorem dL_law_17 : decode cL_law 17 = .ok (.aload_n 0, 1) := by decide +kernel
theorem dL_law_18 : decode cL_law 18 = .ok (.iconst 0, 1) := by decide +kernel
theorem dL_law_19 : decode cL_law 19 = .ok (.invokestatic 9, 3) := by decide +kernel
theorem dL_law_22 : decode cL_law 22 = .ok (.invokespecial 20, 3) := by decide +kernel
theorem dL_law_25 : decode cL_law 25 = .ok (.astore_n 2, 1) := by decide +kernel
theorem dL_law_26 : decode cL_law 26 = .ok (.iconst 1, 1) := by decide +kernel
theorem dL_law_27 : decode cL_law 27 = .ok (.istore_n 3, 1) := by decide +kernel
theorem dL_law_28 : decode cL_law 28 = .ok (.iload_n 3, 1) := by decide +kernel
theorem dL_law_29 : decode cL_law 29 = .ok (.aload_n 0, 1) := by decide +kernel
theorem dL_law_30 : decode cL_law 30 = .ok (.arraylength, 1) := by decide +kernel
theorem dL_law_31 : decode cL_law 31 = .ok (.iconst 5, 1) := by decide +kernel
theorem dL_law_32 : decode cL_law 32 = .ok (.isub, 1) := by decide +kernel
theorem dL_law_33 : decode cL_law 33 = .ok (.if_icmp .gt 509, 3) := by decide +kernel
theorem dL_law_36 : decode cL_law 36 = .ok (.aload_n 0, 1) := by decide +kernel
theorem dL_law_37 : decode cL_law 37 = .ok (.iload_n 3, 1) := by decide +kernel
theorem dL_law_38 : decode cL_law 38 = .ok (.iaload, 1) := by decide +kernel
theorem dL_law_39 : decode cL_law 39 = .ok (.bipush 15, 2) := by decide +kernel
theorem dL_law_41 : decode cL_law 41 = .ok (.iand, 1) := by decide +kernel
theorem dL_law_42 : decode cL_law 42 = .ok (.tableswitch 494 0 13 #[70, 133, 206, 239, 262, 275, 288, 311, 324, 357, 390, 414, 437, 471], 70) := by decide +kernel
theorem dL_law_112 : decode cL_law 112 = .ok (.aload_n 1, 1) := by decide +kernel
theorem dL_law_113 : decode cL_law 113 = .ok (.aload_n 0, 1) := by decide +kernel
theorem dL_law_114 : decode cL_law 114 = .ok (.iload_n 3, 1) := by decide +kernel
theorem dL_law_115 : decode cL_law 115 = .ok (.iconst 1, 1) := by decide +kernel
theorem dL_law_116 : decode cL_law 116 = .ok (.iadd, 1) := by decide +kernel
theorem dL_law_117 : decode cL_law 117 = .ok (.iaload, 1) := by decide +kernel
theorem dL_law_118 : decode cL_law 118 = .ok (.aload_n 0, 1) := by decide +kernel
theorem dL_law_119 : decode cL_law 119 = .ok (.iload_n 3, 1) := by decide +kernel
theorem dL_law_120 : decode cL_law 120 = .ok (.iconst 2, 1) := by decide +kernel
theorem dL_law_121 : decode cL_law 121 = .ok (.iadd, 1) := by decide +kernel
theorem dL_law_122 : decode cL_law 122 = .ok (.iaload, 1) := by decide +kernel
theorem dL_law_123 : decode cL_law 123 = .ok (.i2l, 1) := by decide +kernel
theorem dL_law_124 : decode cL_law 124 = .ok (.bipush 32, 2) := by decide +kernel
theorem dL_law_126 : decode cL_law 126 = .ok (.lshl, 1) := by decide +kernel
theorem dL_law_127 : decode cL_law 127 = .ok (.aload_n 0, 1) := by decide +kernel
theorem dL_law_128 : decode cL_law 128 = .ok (.iload_n 3, 1) := by decide +kernel
theorem dL_law_129 : decode cL_law 129 = .ok (.iconst 3, 1) := by decide +kernel
theorem dL_law_130 : decode cL_law 130 = .ok (.iadd, 1) := by decide +kernel
theorem dL_law_131 : decode cL_law 131 = .ok (.iaload, 1) := by decide +kernel
theorem dL_law_132 : decode cL_law 132 = .ok (.i2l, 1) := by decide +kernel
theorem dL_law_133 : decode cL_law 133 = .ok (.ldc2_w 21, 3) := by decide +kernel
theorem dL_law_136 : decode cL_law 136 = .ok (.land, 1) := by decide +kernel
theorem dL_law_137 : decode cL_law 137 = .ok (.lor, 1) := by decide +kernel
theorem dL_law_138 : decode cL_law 138 = .ok (.invokevirtual 23, 3) := by decide +kernel
theorem dL_law_141 : decode cL_law 141 = .ok (.aload_n 2, 1) := by decide +kernel
theorem dL_law_142 : decode cL_law 142 = .ok (.aload_n 0, 1) := by decide +kernel
theorem dL_law_143 : decode cL_law 143 = .ok (.iload_n 3, 1) := by decide +kernel
theorem dL_law_144 : decode cL_law 144 = .ok (.iconst 1, 1) := by decide +kernel
theorem dL_law_145 : decode cL_law 145 = .ok (.iadd, 1) := by decide +kernel
theorem dL_law_146 : decode cL_law 146 = .ok (.iaload, 1) := by decide +kernel
theorem dL_law_147 : decode cL_law 147 = .ok (.aload_n 0, 1) := by decide +kernel
theorem dL_law_148 : decode cL_law 148 = .ok (.iload_n 3, 1) := by decide +kernel
theorem dL_law_149 : decode cL_law 149 = .ok (.iconst 2, 1) := by decide +kernel
theorem dL_law_150 : decode cL_law 150 = .ok (.iadd, 1) := by decide +kernel
theorem dL_law_151 : decode cL_law 151 = .ok (.iaload, 1) := by decide +kernel
theorem dL_law_152 : decode cL_law 152 = .ok (.i2l, 1) := by decide +kernel
theorem dL_law_153 : decode cL_law 153 = .ok (.bipush 32, 2) := by decide +kernel
theorem dL_law_155 : decode cL_law 155 = .ok (.lshl, 1) := by decide +kernel
theorem dL_law_156 : decode cL_law 156 = .ok (.aload_n 0, 1) := by decide +kernel
theorem dL_law_157 : decode cL_law 157 = .ok (.iload_n 3, 1) := by decide +kernel
theorem dL_law_158 : decode cL_law 158 = .ok (.iconst 3, 1) := by decide +kernel
theorem dL_law_159 : decode cL_law 159 = .ok (.iadd, 1) := by decide +kernel
theorem dL_law_160 : decode cL_law 160 = .ok (.iaload, 1) := by decide +kernel
theorem dL_law_161 : decode cL_law 161 = .ok (.i2l, 1) := by decide +kernel
theorem dL_law_162 : decode cL_law 162 = .ok (.ldc2_w 21, 3) := by decide +kernel
theorem dL_law_165 : decode cL_law 165 = .ok (.land, 1) := by decide +kernel
theorem dL_law_166 : decode cL_law 166 = .ok (.lor, 1) := by decide +kernel
theorem dL_law_167 : decode cL_law 167 = .ok (.invokevirtual 27, 3) := by decide +kernel
theorem dL_law_170 : decode cL_law 170 = .ok (.if_icmp .eq 366, 3) := by decide +kernel
theorem dL_law_173 : decode cL_law 173 = .ok (.iconst 0, 1) := by decide +kernel
theorem dL_law_174 : decode cL_law 174 = .ok (.ireturn, 1) := by decide +kernel
theorem dL_law_175 : decode cL_law 175 = .ok (.aload_n 1, 1) := by decide +kernel
theorem dL_law_176 : decode cL_law 176 = .ok (.aload_n 0, 1) := by decide +kernel
theorem dL_law_177 : decode cL_law 177 = .ok (.iload_n 3, 1) := by decide +kernel
theorem dL_law_178 : decode cL_law 178 = .ok (.iconst 1, 1) := by decide +kernel
theorem dL_law_179 : decode cL_law 179 = .ok (.iadd, 1) := by decide +kernel
theorem dL_law_180 : decode cL_law 180 = .ok (.iaload, 1) := by decide +kernel
theorem dL_law_181 : decode cL_law 181 = .ok (.aload_n 0, 1) := by decide +kernel
theorem dL_law_182 : decode cL_law 182 = .ok (.iload_n 3, 1) := by decide +kernel
theorem dL_law_183 : decode cL_law 183 = .ok (.iconst 2, 1) := by decide +kernel
theorem dL_law_184 : decode cL_law 184 = .ok (.iadd, 1) := by decide +kernel
theorem dL_law_185 : decode cL_law 185 = .ok (.iaload, 1) := by decide +kernel
theorem dL_law_186 : decode cL_law 186 = .ok (.aload_n 0, 1) := by decide +kernel
theorem dL_law_187 : decode cL_law 187 = .ok (.iload_n 3, 1) := by decide +kernel
theorem dL_law_188 : decode cL_law 188 = .ok (.iconst 3, 1) := by decide +kernel
theorem dL_law_189 : decode cL_law 189 = .ok (.iadd, 1) := by decide +kernel
theorem dL_law_190 : decode cL_law 190 = .ok (.iaload, 1) := by decide +kernel
theorem dL_law_191 : decode cL_law 191 = .ok (.i2l, 1) := by decide +kernel
theorem dL_law_192 : decode cL_law 192 = .ok (.bipush 32, 2) := by decide +kernel
theorem dL_law_194 : decode cL_law 194 = .ok (.lshl, 1) := by decide +kernel
theorem dL_law_195 : decode cL_law 195 = .ok (.aload_n 0, 1) := by decide +kernel
theorem dL_law_196 : decode cL_law 196 = .ok (.iload_n 3, 1) := by decide +kernel
theorem dL_law_197 : decode cL_law 197 = .ok (.iconst 4, 1) := by decide +kernel
theorem dL_law_198 : decode cL_law 198 = .ok (.iadd, 1) := by decide +kernel
theorem dL_law_199 : decode cL_law 199 = .ok (.iaload, 1) := by decide +kernel
theorem dL_law_200 : decode cL_law 200 = .ok (.i2l, 1) := by decide +kernel
theorem dL_law_201 : decode cL_law 201 = .ok (.ldc2_w 21, 3) := by decide +kernel
theorem dL_law_204 : decode cL_law 204 = .ok (.land, 1) := by decide +kernel
theorem dL_law_205 : decode cL_law 205 = .ok (.lor, 1) := by decide +kernel
theorem dL_law_206 : decode cL_law 206 = .ok (.invokevirtual 28, 3) := by decide +kernel
theorem dL_law_209 : decode cL_law 209 = .ok (.aload_n 2, 1) := by decide +kernel
theorem dL_law_210 : decode cL_law 210 = .ok (.aload_n 0, 1) := by decide +kernel
theorem dL_law_211 : decode cL_law 211 = .ok (.iload_n 3, 1) := by decide +kernel
theorem dL_law_212 : decode cL_law 212 = .ok (.iconst 1, 1) := by decide +kernel
theorem dL_law_213 : decode cL_law 213 = .ok (.iadd, 1) := by decide +kernel
theorem dL_law_214 : decode cL_law 214 = .ok (.iaload, 1) := by decide +kernel
theorem dL_law_215 : decode cL_law 215 = .ok (.aload_n 0, 1) := by decide +kernel
theorem dL_law_216 : decode cL_law 216 = .ok (.iload_n 3, 1) := by decide +kernel
theorem dL_law_217 : decode cL_law 217 = .ok (.iconst 2, 1) := by decide +kernel
theorem dL_law_218 : decode cL_law 218 = .ok (.iadd, 1) := by decide +kernel
theorem dL_law_219 : decode cL_law 219 = .ok (.iaload, 1) := by decide +kernel
theorem dL_law_220 : decode cL_law 220 = .ok (.aload_n 0, 1) := by decide +kernel
theorem dL_law_221 : decode cL_law 221 = .ok (.iload_n 3, 1) := by decide +kernel
theorem dL_law_222 : decode cL_law 222 = .ok (.iconst 3, 1) := by decide +kernel
theorem dL_law_223 : decode cL_law 223 = .ok (.iadd, 1) := by decide +kernel
theorem dL_law_224 : decode cL_law 224 = .ok (.iaload, 1) := by decide +kernel
theorem dL_law_225 : decode cL_law 225 = .ok (.i2l, 1) := by decide +kernel
theorem dL_law_226 : decode cL_law 226 = .ok (.bipush 32, 2) := by decide +kernel
theorem dL_law_228 : decode cL_law 228 = .ok (.lshl, 1) := by decide +kernel
theorem dL_law_229 : decode cL_law 229 = .ok (.aload_n 0, 1) := by decide +kernel
theorem dL_law_230 : decode cL_law 230 = .ok (.iload_n 3, 1) := by decide +kernel
theorem dL_law_231 : decode cL_law 231 = .ok (.iconst 4, 1) := by decide +kernel
theorem dL_law_232 : decode cL_law 232 = .ok (.iadd, 1) := by decide +kernel
theorem dL_law_233 : decode cL_law 233 = .ok (.iaload, 1) := by decide +kernel
theorem dL_law_234 : decode cL_law 234 = .ok (.i2l, 1) := by decide +kernel
theorem dL_law_235 : decode cL_law 235 = .ok (.ldc2_w 21, 3) := by decide +kernel
theorem dL_law_238 : decode cL_law 238 = .ok (.land, 1) := by decide +kernel
theorem dL_law_239 : decode cL_law 239 = .ok (.lor, 1) := by decide +kernel
theorem dL_law_240 : decode cL_law 240 = .ok (.invokevirtual 32, 3) := by decide +kernel
theorem dL_law_243 : decode cL_law 243 = .ok (.if_icmp .eq 293, 3) := by decide +kernel
theorem dL_law_246 : decode cL_law 246 = .ok (.iconst 0, 1) := by decide +kernel
theorem dL_law_247 : decode cL_law 247 = .ok (.ireturn, 1) := by decide +kernel
theorem dL_law_248 : decode cL_law 248 = .ok (.aload_n 1, 1) := by decide +kernel
theorem dL_law_249 : decode cL_law 249 = .ok (.aload_n 0, 1) := by decide +kernel
theorem dL_law_250 : decode cL_law 250 = .ok (.iload_n 3, 1) := by decide +kernel
theorem dL_law_251 : decode cL_law 251 = .ok (.iconst 1, 1) := by decide +kernel
theorem dL_law_252 : decode cL_law 252 = .ok (.iadd, 1) := by decide +kernel
theorem dL_law_253 : decode cL_law 253 = .ok (.iaload, 1) := by decide +kernel
theorem dL_law_254 : decode cL_law 254 = .ok (.aload_n 0, 1) := by decide +kernel
theorem dL_law_255 : decode cL_law 255 = .ok (.iload_n 3, 1) := by decide +kernel
theorem dL_law_256 : decode cL_law 256 = .ok (.iconst 2, 1) := by decide +kernel
theorem dL_law_257 : decode cL_law 257 = .ok (.iadd, 1) := by decide +kernel
theorem dL_law_258 : decode cL_law 258 = .ok (.iaload, 1) := by decide +kernel
theorem dL_law_259 : decode cL_law 259 = .ok (.invokevirtual 33, 3) := by decide +kernel
theorem dL_law_262 : decode cL_law 262 = .ok (.aload_n 2, 1) := by decide +kernel
theorem dL_law_263 : decode cL_law 263 = .ok (.aload_n 0, 1) := by decide +kernel
theorem dL_law_264 : decode cL_law 264 = .ok (.iload_n 3, 1) := by decide +kernel
theorem dL_law_265 : decode cL_law 265 = .ok (.iconst 1, 1) := by decide +kernel
theorem dL_law_266 : decode cL_law 266 = .ok (.iadd, 1) := by decide +kernel
theorem dL_law_267 : decode cL_law 267 = .ok (.iaload, 1) := by decide +kernel
theorem dL_law_268 : decode cL_law 268 = .ok (.aload_n 0, 1) := by decide +kernel
theorem dL_law_269 : decode cL_law 269 = .ok (.iload_n 3, 1) := by decide +kernel
theorem dL_law_270 : decode cL_law 270 = .ok (.iconst 2, 1) := by decide +kernel
theorem dL_law_271 : decode cL_law 271 = .ok (.iadd, 1) := by decide +kernel
theorem dL_law_272 : decode cL_law 272 = .ok (.iaload, 1) := by decide +kernel
theorem dL_law_273 : decode cL_law 273 = .ok (.invokevirtual 37, 3) := by decide +kernel
theorem dL_law_276 : decode cL_law 276 = .ok (.if_icmp .eq 260, 3) := by decide +kernel
theorem dL_law_279 : decode cL_law 279 = .ok (.iconst 0, 1) := by decide +kernel
theorem dL_law_280 : decode cL_law 280 = .ok (.ireturn, 1) := by decide +kernel
theorem dL_law_281 : decode cL_law 281 = .ok (.aload_n 1, 1) := by decide +kernel
theorem dL_law_282 : decode cL_law 282 = .ok (.aload_n 0, 1) := by decide +kernel
theorem dL_law_283 : decode cL_law 283 = .ok (.iload_n 3, 1) := by decide +kernel
theorem dL_law_284 : decode cL_law 284 = .ok (.iconst 1, 1) := by decide +kernel
theorem dL_law_285 : decode cL_law 285 = .ok (.iadd, 1) := by decide +kernel
theorem dL_law_286 : decode cL_law 286 = .ok (.iaload, 1) := by decide +kernel
theorem dL_law_287 : decode cL_law 287 = .ok (.invokevirtual 38, 3) := by decide +kernel
theorem dL_law_290 : decode cL_law 290 = .ok (.aload_n 2, 1) := by decide +kernel
theorem dL_law_291 : decode cL_law 291 = .ok (.aload_n 0, 1) := by decide +kernel
theorem dL_law_292 : decode cL_law 292 = .ok (.iload_n 3, 1) := by decide +kernel
theorem dL_law_293 : decode cL_law 293 = .ok (.iconst 1, 1) := by decide +kernel
theorem dL_law_294 : decode cL_law 294 = .ok (.iadd, 1) := by decide +kernel
theorem dL_law_295 : decode cL_law 295 = .ok (.iaload, 1) := by decide +kernel
theorem dL_law_296 : decode cL_law 296 = .ok (.invokevirtual 42, 3) := by decide +kernel
theorem dL_law_299 : decode cL_law 299 = .ok (.if_icmp .eq 237, 3) := by decide +kernel
theorem dL_law_302 : decode cL_law 302 = .ok (.iconst 0, 1) := by decide +kernel
theorem dL_law_303 : decode cL_law 303 = .ok (.ireturn, 1) := by decide +kernel
theorem dL_law_304 : decode cL_law 304 = .ok (.aload_n 1, 1) := by decide +kernel
theorem dL_law_305 : decode cL_law 305 = .ok (.invokevirtual 43, 3) := by decide +kernel
theorem dL_law_308 : decode cL_law 308 = .ok (.aload_n 2, 1) := by decide +kernel
theorem dL_law_309 : decode cL_law 309 = .ok (.invokevirtual 47, 3) := by decide +kernel
theorem dL_law_312 : decode cL_law 312 = .ok (.if_icmp .eq 224, 3) := by decide +kernel
theorem dL_law_315 : decode cL_law 315 = .ok (.iconst 0, 1) := by decide +kernel
theorem dL_law_316 : decode cL_law 316 = .ok (.ireturn, 1) := by decide +kernel
theorem dL_law_317 : decode cL_law 317 = .ok (.aload_n 1, 1) := by decide +kernel
theorem dL_law_318 : decode cL_law 318 = .ok (.invokevirtual 48, 3) := by decide +kernel
theorem dL_law_321 : decode cL_law 321 = .ok (.aload_n 2, 1) := by decide +kernel
theorem dL_law_322 : decode cL_law 322 = .ok (.invokevirtual 51, 3) := by decide +kernel
theorem dL_law_325 : decode cL_law 325 = .ok (.if_icmp .eq 211, 3) := by decide +kernel
theorem dL_law_328 : decode cL_law 328 = .ok (.iconst 0, 1) := by decide +kernel
theorem dL_law_329 : decode cL_law 329 = .ok (.ireturn, 1) := by decide +kernel
theorem dL_law_330 : decode cL_law 330 = .ok (.aload_n 1, 1) := by decide +kernel
theorem dL_law_331 : decode cL_law 331 = .ok (.aload_n 0, 1) := by decide +kernel
theorem dL_law_332 : decode cL_law 332 = .ok (.iload_n 3, 1) := by decide +kernel
theorem dL_law_333 : decode cL_law 333 = .ok (.iconst 1, 1) := by decide +kernel
theorem dL_law_334 : decode cL_law 334 = .ok (.iadd, 1) := by decide +kernel
theorem dL_law_335 : decode cL_law 335 = .ok (.iaload, 1) := by decide +kernel
theorem dL_law_336 : decode cL_law 336 = .ok (.invokevirtual 52, 3) := by decide +kernel
theorem dL_law_339 : decode cL_law 339 = .ok (.aload_n 2, 1) := by decide +kernel
theorem dL_law_340 : decode cL_law 340 = .ok (.aload_n 0, 1) := by decide +kernel
theorem dL_law_341 : decode cL_law 341 = .ok (.iload_n 3, 1) := by decide +kernel
theorem dL_law_342 : decode cL_law 342 = .ok (.iconst 1, 1) := by decide +kernel
theorem dL_law_343 : decode cL_law 343 = .ok (.iadd, 1) := by decide +kernel
theorem dL_law_344 : decode cL_law 344 = .ok (.iaload, 1) := by decide +kernel
theorem dL_law_345 : decode cL_law 345 = .ok (.invokevirtual 55, 3) := by decide +kernel
theorem dL_law_348 : decode cL_law 348 = .ok (.if_icmp .eq 188, 3) := by decide +kernel
theorem dL_law_351 : decode cL_law 351 = .ok (.iconst 0, 1) := by decide +kernel
theorem dL_law_352 : decode cL_law 352 = .ok (.ireturn, 1) := by decide +kernel
theorem dL_law_353 : decode cL_law 353 = .ok (.aload_n 1, 1) := by decide +kernel
theorem dL_law_354 : decode cL_law 354 = .ok (.invokevirtual 56, 3) := by decide +kernel
theorem dL_law_357 : decode cL_law 357 = .ok (.aload_n 2, 1) := by decide +kernel
theorem dL_law_358 : decode cL_law 358 = .ok (.invokevirtual 59, 3) := by decide +kernel
theorem dL_law_361 : decode cL_law 361 = .ok (.if_icmp .eq 175, 3) := by decide +kernel
theorem dL_law_364 : decode cL_law 364 = .ok (.iconst 0, 1) := by decide +kernel
theorem dL_law_365 : decode cL_law 365 = .ok (.ireturn, 1) := by decide +kernel
theorem dL_law_366 : decode cL_law 366 = .ok (.aload_n 1, 1) := by decide +kernel
theorem dL_law_367 : decode cL_law 367 = .ok (.aload_n 0, 1) := by decide +kernel
theorem dL_law_368 : decode cL_law 368 = .ok (.iload_n 3, 1) := by decide +kernel
theorem dL_law_369 : decode cL_law 369 = .ok (.iconst 1, 1) := by decide +kernel
theorem dL_law_370 : decode cL_law 370 = .ok (.iadd, 1) := by decide +kernel
theorem dL_law_371 : decode cL_law 371 = .ok (.iaload, 1) := by decide +kernel
theorem dL_law_372 : decode cL_law 372 = .ok (.aload_n 0, 1) := by decide +kernel
theorem dL_law_373 : decode cL_law 373 = .ok (.iload_n 3, 1) := by decide +kernel
theorem dL_law_374 : decode cL_law 374 = .ok (.iconst 2, 1) := by decide +kernel
theorem dL_law_375 : decode cL_law 375 = .ok (.iadd, 1) := by decide +kernel
theorem dL_law_376 : decode cL_law 376 = .ok (.iaload, 1) := by decide +kernel
theorem dL_law_377 : decode cL_law 377 = .ok (.invokevirtual 60, 3) := by decide +kernel
theorem dL_law_380 : decode cL_law 380 = .ok (.aload_n 2, 1) := by decide +kernel
theorem dL_law_381 : decode cL_law 381 = .ok (.aload_n 0, 1) := by decide +kernel
theorem dL_law_382 : decode cL_law 382 = .ok (.iload_n 3, 1) := by decide +kernel
theorem dL_law_383 : decode cL_law 383 = .ok (.iconst 1, 1) := by decide +kernel
theorem dL_law_384 : decode cL_law 384 = .ok (.iadd, 1) := by decide +kernel
theorem dL_law_385 : decode cL_law 385 = .ok (.iaload, 1) := by decide +kernel
theorem dL_law_386 : decode cL_law 386 = .ok (.aload_n 0, 1) := by decide +kernel
theorem dL_law_387 : decode cL_law 387 = .ok (.iload_n 3, 1) := by decide +kernel
theorem dL_law_388 : decode cL_law 388 = .ok (.iconst 2, 1) := by decide +kernel
theorem dL_law_389 : decode cL_law 389 = .ok (.iadd, 1) := by decide +kernel
theorem dL_law_390 : decode cL_law 390 = .ok (.iaload, 1) := by decide +kernel
theorem dL_law_391 : decode cL_law 391 = .ok (.invokevirtual 63, 3) := by decide +kernel
theorem dL_law_394 : decode cL_law 394 = .ok (.if_icmp .eq 142, 3) := by decide +kernel
theorem dL_law_397 : decode cL_law 397 = .ok (.iconst 0, 1) := by decide +kernel
theorem dL_law_398 : decode cL_law 398 = .ok (.ireturn, 1) := by decide +kernel
theorem dL_law_399 : decode cL_law 399 = .ok (.aload_n 1, 1) := by decide +kernel
theorem dL_law_400 : decode cL_law 400 = .ok (.aload_n 0, 1) := by decide +kernel
theorem dL_law_401 : decode cL_law 401 = .ok (.iload_n 3, 1) := by decide +kernel
theorem dL_law_402 : decode cL_law 402 = .ok (.iconst 1, 1) := by decide +kernel
theorem dL_law_403 : decode cL_law 403 = .ok (.iadd, 1) := by decide +kernel
theorem dL_law_404 : decode cL_law 404 = .ok (.iaload, 1) := by decide +kernel
theorem dL_law_405 : decode cL_law 405 = .ok (.aload_n 0, 1) := by decide +kernel
theorem dL_law_406 : decode cL_law 406 = .ok (.iload_n 3, 1) := by decide +kernel
theorem dL_law_407 : decode cL_law 407 = .ok (.iconst 2, 1) := by decide +kernel
theorem dL_law_408 : decode cL_law 408 = .ok (.iadd, 1) := by decide +kernel
theorem dL_law_409 : decode cL_law 409 = .ok (.iaload, 1) := by decide +kernel
theorem dL_law_410 : decode cL_law 410 = .ok (.invokevirtual 64, 3) := by decide +kernel
theorem dL_law_413 : decode cL_law 413 = .ok (.aload_n 2, 1) := by decide +kernel
theorem dL_law_414 : decode cL_law 414 = .ok (.aload_n 0, 1) := by decide +kernel
theorem dL_law_415 : decode cL_law 415 = .ok (.iload_n 3, 1) := by decide +kernel
theorem dL_law_416 : decode cL_law 416 = .ok (.iconst 1, 1) := by decide +kernel
theorem dL_law_417 : decode cL_law 417 = .ok (.iadd, 1) := by decide +kernel
theorem dL_law_418 : decode cL_law 418 = .ok (.iaload, 1) := by decide +kernel
theorem dL_law_419 : decode cL_law 419 = .ok (.aload_n 0, 1) := by decide +kernel
theorem dL_law_420 : decode cL_law 420 = .ok (.iload_n 3, 1) := by decide +kernel
theorem dL_law_421 : decode cL_law 421 = .ok (.iconst 2, 1) := by decide +kernel
theorem dL_law_422 : decode cL_law 422 = .ok (.iadd, 1) := by decide +kernel
theorem dL_law_423 : decode cL_law 423 = .ok (.iaload, 1) := by decide +kernel
theorem dL_law_424 : decode cL_law 424 = .ok (.invokevirtual 67, 3) := by decide +kernel
theorem dL_law_427 : decode cL_law 427 = .ok (.if_icmp .eq 109, 3) := by decide +kernel
theorem dL_law_430 : decode cL_law 430 = .ok (.iconst 0, 1) := by decide +kernel
theorem dL_law_431 : decode cL_law 431 = .ok (.ireturn, 1) := by decide +kernel
theorem dL_law_432 : decode cL_law 432 = .ok (.aload_n 1, 1) := by decide +kernel
theorem dL_law_433 : decode cL_law 433 = .ok (.aload_n 0, 1) := by decide +kernel
theorem dL_law_434 : decode cL_law 434 = .ok (.iload_n 3, 1) := by decide +kernel
theorem dL_law_435 : decode cL_law 435 = .ok (.iconst 1, 1) := by decide +kernel
theorem dL_law_436 : decode cL_law 436 = .ok (.iadd, 1) := by decide +kernel
theorem dL_law_437 : decode cL_law 437 = .ok (.iaload, 1) := by decide +kernel
theorem dL_law_438 : decode cL_law 438 = .ok (.invokevirtual 68, 3) := by decide +kernel
theorem dL_law_441 : decode cL_law 441 = .ok (.aload_n 2, 1) := by decide +kernel
theorem dL_law_442 : decode cL_law 442 = .ok (.aload_n 0, 1) := by decide +kernel
theorem dL_law_443 : decode cL_law 443 = .ok (.iload_n 3, 1) := by decide +kernel
theorem dL_law_444 : decode cL_law 444 = .ok (.iconst 1, 1) := by decide +kernel
theorem dL_law_445 : decode cL_law 445 = .ok (.iadd, 1) := by decide +kernel
theorem dL_law_446 : decode cL_law 446 = .ok (.iaload, 1) := by decide +kernel
theorem dL_law_447 : decode cL_law 447 = .ok (.invokevirtual 72, 3) := by decide +kernel
theorem dL_law_450 : decode cL_law 450 = .ok (.lcmp, 1) := by decide +kernel
theorem dL_law_451 : decode cL_law 451 = .ok (.ifCond .eq 85, 3) := by decide +kernel
theorem dL_law_454 : decode cL_law 454 = .ok (.iconst 0, 1) := by decide +kernel
theorem dL_law_455 : decode cL_law 455 = .ok (.ireturn, 1) := by decide +kernel
theorem dL_law_456 : decode cL_law 456 = .ok (.aload_n 1, 1) := by decide +kernel
theorem dL_law_457 : decode cL_law 457 = .ok (.aload_n 0, 1) := by decide +kernel
theorem dL_law_458 : decode cL_law 458 = .ok (.iload_n 3, 1) := by decide +kernel
theorem dL_law_459 : decode cL_law 459 = .ok (.iconst 1, 1) := by decide +kernel
theorem dL_law_460 : decode cL_law 460 = .ok (.iadd, 1) := by decide +kernel
theorem dL_law_461 : decode cL_law 461 = .ok (.iaload, 1) := by decide +kernel
theorem dL_law_462 : decode cL_law 462 = .ok (.invokevirtual 73, 3) := by decide +kernel
theorem dL_law_465 : decode cL_law 465 = .ok (.aload_n 2, 1) := by decide +kernel
theorem dL_law_466 : decode cL_law 466 = .ok (.aload_n 0, 1) := by decide +kernel
theorem dL_law_467 : decode cL_law 467 = .ok (.iload_n 3, 1) := by decide +kernel
theorem dL_law_468 : decode cL_law 468 = .ok (.iconst 1, 1) := by decide +kernel
theorem dL_law_469 : decode cL_law 469 = .ok (.iadd, 1) := by decide +kernel
theorem dL_law_470 : decode cL_law 470 = .ok (.iaload, 1) := by decide +kernel
theorem dL_law_471 : decode cL_law 471 = .ok (.invokevirtual 76, 3) := by decide +kernel
theorem dL_law_474 : decode cL_law 474 = .ok (.if_icmp .eq 62, 3) := by decide +kernel
theorem dL_law_477 : decode cL_law 477 = .ok (.iconst 0, 1) := by decide +kernel
theorem dL_law_478 : decode cL_law 478 = .ok (.ireturn, 1) := by decide +kernel
theorem dL_law_479 : decode cL_law 479 = .ok (.aload_n 1, 1) := by decide +kernel
theorem dL_law_480 : decode cL_law 480 = .ok (.aload_n 0, 1) := by decide +kernel
theorem dL_law_481 : decode cL_law 481 = .ok (.iload_n 3, 1) := by decide +kernel
theorem dL_law_482 : decode cL_law 482 = .ok (.iconst 1, 1) := by decide +kernel
theorem dL_law_483 : decode cL_law 483 = .ok (.iadd, 1) := by decide +kernel
theorem dL_law_484 : decode cL_law 484 = .ok (.iaload, 1) := by decide +kernel
theorem dL_law_485 : decode cL_law 485 = .ok (.aload_n 0, 1) := by decide +kernel
theorem dL_law_486 : decode cL_law 486 = .ok (.iload_n 3, 1) := by decide +kernel
theorem dL_law_487 : decode cL_law 487 = .ok (.iconst 2, 1) := by decide +kernel
theorem dL_law_488 : decode cL_law 488 = .ok (.iadd, 1) := by decide +kernel
theorem dL_law_489 : decode cL_law 489 = .ok (.iaload, 1) := by decide +kernel
theorem dL_law_490 : decode cL_law 490 = .ok (.invokevirtual 77, 3) := by decide +kernel
theorem dL_law_493 : decode cL_law 493 = .ok (.aload_n 2, 1) := by decide +kernel
theorem dL_law_494 : decode cL_law 494 = .ok (.aload_n 0, 1) := by decide +kernel
theorem dL_law_495 : decode cL_law 495 = .ok (.iload_n 3, 1) := by decide +kernel
theorem dL_law_496 : decode cL_law 496 = .ok (.iconst 1, 1) := by decide +kernel
theorem dL_law_497 : decode cL_law 497 = .ok (.iadd, 1) := by decide +kernel
theorem dL_law_498 : decode cL_law 498 = .ok (.iaload, 1) := by decide +kernel
theorem dL_law_499 : decode cL_law 499 = .ok (.aload_n 0, 1) := by decide +kernel
theorem dL_law_500 : decode cL_law 500 = .ok (.iload_n 3, 1) := by decide +kernel
theorem dL_law_501 : decode cL_law 501 = .ok (.iconst 2, 1) := by decide +kernel
theorem dL_law_502 : decode cL_law 502 = .ok (.iadd, 1) := by decide +kernel
theorem dL_law_503 : decode cL_law 503 = .ok (.iaload, 1) := by decide +kernel
theorem dL_law_504 : decode cL_law 504 = .ok (.invokevirtual 81, 3) := by decide +kernel
theorem dL_law_507 : decode cL_law 507 = .ok (.lcmp, 1) := by decide +kernel
theorem dL_law_508 : decode cL_law 508 = .ok (.ifCond .eq 28, 3) := by decide +kernel
theorem dL_law_511 : decode cL_law 511 = .ok (.iconst 0, 1) := by decide +kernel
theorem dL_law_512 : decode cL_law 512 = .ok (.ireturn, 1) := by decide +kernel
theorem dL_law_513 : decode cL_law 513 = .ok (.aload_n 1, 1) := by decide +kernel
theorem dL_law_514 : decode cL_law 514 = .ok (.aload_n 0, 1) := by decide +kernel
theorem dL_law_515 : decode cL_law 515 = .ok (.iload_n 3, 1) := by decide +kernel
theorem dL_law_516 : decode cL_law 516 = .ok (.iconst 1, 1) := by decide +kernel
theorem dL_law_517 : decode cL_law 517 = .ok (.iadd, 1) := by decide +kernel
theorem dL_law_518 : decode cL_law 518 = .ok (.iaload, 1) := by decide +kernel
theorem dL_law_519 : decode cL_law 519 = .ok (.invokevirtual 82, 3) := by decide +kernel
theorem dL_law_522 : decode cL_law 522 = .ok (.aload_n 2, 1) := by decide +kernel
theorem dL_law_523 : decode cL_law 523 = .ok (.aload_n 0, 1) := by decide +kernel
theorem dL_law_524 : decode cL_law 524 = .ok (.iload_n 3, 1) := by decide +kernel
theorem dL_law_525 : decode cL_law 525 = .ok (.iconst 1, 1) := by decide +kernel
theorem dL_law_526 : decode cL_law 526 = .ok (.iadd, 1) := by decide +kernel
theorem dL_law_527 : decode cL_law 527 = .ok (.iaload, 1) := by decide +kernel
theorem dL_law_528 : decode cL_law 528 = .ok (.invokevirtual 85, 3) := by decide +kernel
theorem dL_law_531 : decode cL_law 531 = .ok (.if_icmp .eq 5, 3) := by decide +kernel
theorem dL_law_534 : decode cL_law 534 = .ok (.iconst 0, 1) := by decide +kernel
theorem dL_law_535 : decode cL_law 535 = .ok (.ireturn, 1) := by decide +kernel
theorem dL_law_536 : decode cL_law 536 = .ok (.iinc 3 5, 3) := by decide +kernel
theorem dL_law_539 : decode cL_law 539 = .ok (.goto (-511), 3) := by decide +kernel
theorem dL_law_542 : decode cL_law 542 = .ok (.iconst 1, 1) := by decide +kernel
theorem dL_law_543 : decode cL_law 543 = .ok (.ireturn, 1) := by decide +kernel
end
section
/-! 02.base: the words that all contracts of this claim share: the world, the statics, the nest links, and the call rows in one piece. -/
def FU : Nat := 4096
def jiushr (x y : Int32) : Int32 := (x.toUInt32 >>> (y.toUInt32 &&& Int32.toUInt32 31)).toInt32
def jlushr (x : Int64) (y : Int32) : Int64 := (x.toUInt64 >>> (y.toInt64.toUInt64 &&& Int64.toUInt64 63)).toInt64
def jlshl (x : Int64) (y : Int32) : Int64 := x <<< (y.toInt64 &&& 63)
def jlshr (x : Int64) (y : Int32) : Int64 := x >>> (y.toInt64 &&& 63)
def outr (m1 m2 : Nat) : Nat → Option Nat := fun j => if j = 0 then some m1 else some m2
def zb (b : Bool) : Int32 := if b then 1 else 0
theorem zb_nar (b : Bool) : narrow .boolean (.int (zb b)) = .int (zb b) := by cases b <;> rfl
theorem zb_0 (b : Bool) : zb b = 0 ↔ b = false := by cases b <;> simp [zb]
def ib (i : Int32) (n : Nat) : Bool := !(decide (i < 0) || decide (n ≤ i.toNatClampNeg))
theorem ib_in {i : Int32} {n : Nat} (h : ib i n = true) : vp_in i n := by
  intro q
  unfold ib at h
  rcases q with q | q <;> simp [q] at h
theorem in_ib {i : Int32} {n : Nat} (h : vp_in i n) : ib i n = true := by
  unfold ib
  unfold vp_in at h
  by_cases a : i < 0
  · exact absurd (Or.inl a) h
  · by_cases b : n ≤ i.toNatClampNeg
    · exact absurd (Or.inr b) h
    · simp [a, b]
theorem ibk {α : Type} {b : Bool} {T : Option α} {r : α} (h : (if b = true then T else none) = some r) : b = true ∧ T = some r := by
  cases b
  · exact absurd h (by simp)
  · exact ⟨rfl, by simpa using h⟩
theorem ifp {α : Type} {P : Prop} {dP : Decidable P} {T E : Option α} {r : α} (h : (@ite (Option α) P dP T E) = some r) (c : P) : T = some r := by
  rw [if_pos c] at h
  exact h
theorem ifn {α : Type} {P : Prop} {dP : Decidable P} {T E : Option α} {r : α} (h : (@ite (Option α) P dP T E) = some r) (c : ¬ P) : E = some r := by
  rw [if_neg c] at h
  exact h
theorem obd {α β : Type} {x : Option α} {f : α → Option β} {r : β} (h : x.bind f = some r) : ∃ a, x = some a ∧ f a = some r := by
  cases x with
  | none => exact absurd h (by simp)
  | some a => exact ⟨a, rfl, h⟩
/-- the array classes: byte, int, long, boolean, byte[] -/
abbrev wT (y : Nat → ClassId) : List (ClassId × FieldType) := [(y 0, .byte), (y 1, .int), (y 2, .long), (y 3, .boolean), (y 4, .array .byte)]
def crcL : List Int32 := [0, 498536548, 997073096, 651767980, 1994146192, 1802195444, 1303535960, 1342533948, -306674912, -267414716, -690576408, -882789492, -1687895376, -2032938284, -1609899400, -1111625188]
def crcT (j : Nat) : Int32 := crcL.getD j 0
def sOk (A : Nat → Prop) (U : State) (H : Heap) : Prop := ∃ t : Nat, va_Z "SampleTracker$Crc" "OF_HALF_BYTE" "[I" (.ref t) A U H ∧ va_T .int t 16 (fun j => .int (crcT j)) A U H
def nWf : List Cond := [.fieldLinkNest RX8 189 RX2 "volume" "J" RX8, .fieldLinkNest RX8 196 RX2 "well" "I" RX8, .fieldLinkNest RX5 46 RX2 "kind" "I" RX8, .fieldLinkNest RX5 53 RX2 "sample" "I" RX8, .fieldLinkNest RX5 59 RX2 "well" "I" RX8, .fieldLinkNest RX5 65 RX2 "volume" "J" RX8, .fieldLinkNest RX7 106 RX2 "volume" "J" RX8, .fieldLinkNest RX7 113 RX2 "well" "I" RX8, .fieldLinkNest RX7 120 RX2 "sample" "I" RX8, .fieldLinkNest RX7 82 RX2 "kind" "I" RX8]
def nWm : List Cond := [.methodLinkNest RX8 11 yX6_init RX8, .methodLinkNest RX8 36 yX7_init RX8, .methodLinkNest RX8 43 yX2_init RX8, .methodLinkNest RX3 45 yX6_init RX8, .methodLinkNest RX7 28 yX4_init RX8, .methodLinkNest RX7 51 yX8_isWell RX8]
def nOk (U : State) : Prop := (∀ w ∈ nWf, va_Nw w U) ∧ ∀ w ∈ nWm, va_Nw w U
theorem nWf_on : ∀ w ∈ nWf, w.onTables = true := by decide +kernel
theorem nWm_on : ∀ w ∈ nWm, w.onTables = true := by decide +kernel
theorem nOk.same {u U : State} (h : u.vm = U.vm) (q : nOk u) : nOk U := ⟨fun w hw => va_Nw.same (nWf_on w hw) h (q.1 w hw), fun w hw => va_Nw.same (nWm_on w hw) h (q.2 w hw)⟩
theorem nOk.warm {s U : State} (hW : s.WarmedH U.vm) (q : nOk s) : nOk U := by
  refine ⟨fun w hw => ?_, fun w hw => ?_⟩
  · have h := q.1 w hw
    simp only [nWf, List.mem_cons, List.not_mem_nil, or_false] at hw
    rcases hw with rfl | rfl | rfl | rfl | rfl | rfl | rfl | rfl | rfl | rfl <;> exact va_Nw.warmF hW h
  · have h := q.2 w hw
    simp only [nWm, List.mem_cons, List.not_mem_nil, or_false] at hw
    rcases hw with rfl | rfl | rfl | rfl | rfl | rfl <;> exact va_Nw.warmM hW h
def Pre (D : va_G) (y : Nat → ClassId) (av : List Value) (ws : va_W) (sz : Nat) : Array Value → State → Prop := fun v U => v = av.toArray ∧ U.heap.size = sz ∧ va_P D vwCl ws U.heap ∧ va_K D vwCl (wT y) U ∧ va_D (fun _ => True) ws ∧ sOk (va_A ws sz) U U.heap ∧ nOk U
def Po (D : va_G) {S : Type} (ov : S → Option Value) (wq : S → va_W) (A : Nat → Prop) : Array Value → State → Outcome → State → Prop := fun _ st oc t => (∃ u : S, oc = .returned (ov u) ∧ va_P D vwCl (wq u) t.heap ∧ va_D A (wq u)) ∧ va_F A st t
/-- a contract: from the world wp with the arguments av the method answers ov and leaves the world w1; nothing is made -/
def CT (l : Launch) (D : va_G) (y : Nat → ClassId) (yy : MethodName) (ws : List Cond) (rm : Room) (av : List Value) (wp : va_W) (ov : Option Value) (w1 : va_W) : Prop := ∀ sz : Nat, Met l yy ws rm (Pre D y av wp sz) (Po D (fun _ : Unit => ov) (fun _ => w1) (va_A wp sz)) 0 0 (va_A wp sz)
/-- what holds of the start of a method, all along it -/
def Ev (D : va_G) (y : Nat → ClassId) (A : Nat → Prop) (s : State) : Prop := va_K D vwCl (wT y) s ∧ sOk A s s.heap ∧ nOk s ∧ ∀ q : Nat, s.heap.size ≤ q → A q
theorem Pre.blind {D : va_G} {y : Nat → ClassId} {av : List Value} {ws : va_W} {sz : Nat} : FrameBlind (Pre D y av ws sz) := by
  intro a U g mk q
  obtain ⟨q0, q1, qP, qK, qD, ⟨t, qz, qt⟩, qN⟩ := q
  exact ⟨q0, q1, qP, va_K.moved (u := U) (U := U.calling g mk a) (Vm.Alike.refl U.vm) qK, qD, ⟨t, va_Z.moved (u := U) (U := U.calling g mk a) (Vm.Alike.refl U.vm) qz, va_T.moved (u := U) (U := U.calling g mk a) (Vm.Alike.refl U.vm) qt⟩, nOk.same (u := U) (U := U.calling g mk a) rfl qN⟩
theorem fm_of_map {α : Type} {is : List Nat} {f : Nat → Option α} {l : List α} (h : is.map f = l.map some) : is.filterMap f = l := by
  induction is generalizing l with
  | nil =>
    cases l with
    | nil => rfl
    | cons a t => simp at h
  | cons i t ih =>
    cases l with
    | nil => simp at h
    | cons a r =>
      simp only [List.map_cons, List.cons.injEq] at h
      rw [List.filterMap_cons, h.1]
      simp [ih h.2]
theorem sOk.pass {A B : Nat → Prop} {s U : State} {H : Heap} {locs : List Loc} (h : sOk A s s.heap) (hS : va_S A s.heap H locs) (hF : ∀ q, B q → A q) (hU : U.heap = H) (hW : s.WarmedH U.vm) : sOk B U U.heap := by
  obtain ⟨t, hz, ht⟩ := h
  rw [hU]
  exact ⟨t, va_Z.moved hW.alike ((hz.kept (H1 := H) (fun a h1 h2 => hS.2.1 a h1 h2)).narrow hF), va_T.moved hW.alike ((ht.kept (H1 := H) (fun a h1 h2 => hS.2.1 a h1 h2)).narrow hF)⟩
section CtCalls
variable {p : Program} {l : Launch} {e : Env} {R : Room} {s : State} {m : MethodId} {args : Array Value} {below : List Frame} {meth : Method} {c : Code} {H : Heap} {locs : List Loc} {cells slots : Nat} {Q : State → Prop}
variable {pc : Nat} {ls : Array Slot} {rest st0 : List Value} {A : Nat → Prop} {D : va_G} {y : Nat → ClassId} {wx wc wr w1 wn : va_W} {cc bytes : ByteArray} {nL maxL index n : Nat} {Ts wsm : List Cond} {own C : String} {yy : MethodName} {ret : Option FieldType} {rm : Room} {b : Addr} {As : List Value} {ov : Option Value}
theorem ct_pre (E : Ev D y A s) (hP : va_P D vwCl wx H) (hD : va_D A wx) (hS : va_S A s.heap H locs) (isC : List Nat) (hC : isC.map (fun i => wx[i]?) = wc.map some) (hnc : va_nd isC = true) (av : List Value) : ∀ U : State, U.heap = H → s.WarmedH U.vm → Pre D y av wc H.size av.toArray U := by
  intro U hU hW
  refine ⟨rfl, by rw [hU], by rw [hU]; exact hP.sub isC (fm_of_map hC), va_K.moved hW.alike E.1, (hD.sub isC hnc hC).weaken (fun _ _ _ _ => trivial), ?_, E.2.2.1.warm hW⟩
  exact E.2.1.pass hS (va_free hD hS E.2.2.2 isC hC) hU hW
theorem ct_back {S : Type} {ovs : S → Option Value} {wq : S → va_W} {mc ms : Nat} {a : Array Value} (hr : va_Run p l e R s m args below meth c H locs cells slots mc ms (F0 m pc ls st0) rest (Po D ovs wq (va_A wc H.size) a) (va_A wc H.size)) (E : Ev D y A s) (hP : va_P D vwCl wx H) (hD : va_D A wx) (hS : va_S A s.heap H locs) (isC isR : List Nat) (hC : isC.map (fun i => wx[i]?) = wc.map some) (hR : isR.map (fun i => wx[i]?) = wr.map some) (hnr : va_nd isR = true) (hdis : ∀ i ∈ isR, i ∉ isC)
    (kk : ∀ (u : S) (H1 : Heap) (locs1 : List Loc), va_P D vwCl (wr ++ wq u) H1 → va_D A (wr ++ wq u) → va_S A s.heap H1 locs1 → W p l e R s m args below meth c H1 locs1 (cells + mc) (slots + ms) Q (F0 m (pc + 3) ls ((ovs u).toList ++ rest))) : W p l e R s m args below meth c H locs cells slots Q (F0 m pc ls st0) := by
  intro T hT X
  obtain ⟨v, st₀, t, T', L, h0, X', hL, e1, e2, ⟨⟨u, hv, hp, hd⟩, hz, hk⟩, st⟩ := hr T hT X
  cases hv
  rw [h0] at hz hk
  have hF := va_free hD hS E.2.2.2 isC hC
  obtain ⟨hPj, hDj⟩ := va_join (H1 := t.heap) hP hD isC isR hC hR hnr hdis hk hF hp hd
  obtain ⟨t2, a1, b1⟩ := kk u T'.heap (locs ++ L) (by rw [e1]; exact hPj) hDj ⟨Nat.le_trans hS.1 (by rw [e1]; exact hz), fun q h1 h2 => by rw [e1, hk q (Nat.lt_of_lt_of_le h1 hS.1) (fun z => h2 (hF q z))]; exact hS.2.1 q h1 h2, fun q hq => by
      rcases List.mem_append.mp hq with h | h
      · exact hS.2.2 q h
      · exact hF _ (hL q h)⟩ T' rfl X'
  exact ⟨t2, st t2 a1, b1⟩
theorem ct_V (Sx : CallFix p m c cc nL s args Ts own) (hM : CT l D y yy wsm rm (.ref b :: As) wc ov w1) (cw : CallW R s args own C index yy bytes maxL ret wsm rm 0 0 n) (E : Ev D y A s) (hP : va_P D vwCl wx H) (hD : va_D A wx) (hS : va_S A s.heap H locs) (isC isR idx : List Nat) (hC : isC.map (fun i => wx[i]?) = wc.map some) (hnc : va_nd isC = true) (hR : isR.map (fun i => wx[i]?) = wr.map some) (hnr : va_nd isR = true) (hdis : ∀ i ∈ isR, i ∉ isC) (hN : idx.map (fun i => (wr ++ w1)[i]?) = wn.map some) (hni : va_nd idx = true) (q0 ci : Nat) {T : u_T} {N : Nat} {fs : List Value} (hc : vwCl[ci]? = some (C, T, N)) (he : wc[q0]? = some (b, .inr (ci, fs))) (hlen : As.length = n) (hsz : ls.size = nL) (hstk : st0 = As.reverse ++ .ref b :: rest) (hW : (rest.map fun v => v.category).sum ≤ 8) (hdg : decode cc pc = .ok (.invokevirtual index, 3)) (hcs : cells ≤ R.cells ∧ slots ≤ R.slots)
    (kk : ∀ (H1 : Heap) (locs1 : List Loc), va_P D vwCl wn H1 → va_D A wn → va_S A s.heap H1 locs1 → W p l e R s m args below meth c H1 locs1 cells slots Q (F0 m (pc + 3) ls (ov.toList ++ rest))) : W p l e R s m args below meth c H locs cells slots Q (F0 m pc ls st0) := by
  refine ct_back (va_runV (As := As) (rest := rest) (b := b) Sx (hM H.size) cw ⟨Pre.blind, va_recv E.1 (hP.sub isC (fm_of_map hC)) hc he, ct_pre E hP hD hS isC hC hnc _⟩ rfl hlen hsz hstk (lv_room hW) hdg ⟨hcs.1, hcs.2⟩) E hP hD hS isC isR hC hR hnr hdis (fun _ H1 locs1 hP1 hD1 hS1 => ?_)
  exact kk H1 locs1 (hP1.sub idx (fm_of_map hN)) (hD1.sub idx hni hN) hS1
theorem ct_S (Sx : CallFix p m c cc nL s args Ts own) (hM : CT l D y yy wsm rm As wc ov w1) (cw : CallB R s args own index yy bytes maxL ret wsm rm 0 0 n ∧ (Cond.static yy).before args s = true) (E : Ev D y A s) (hP : va_P D vwCl wx H) (hD : va_D A wx) (hS : va_S A s.heap H locs) (isC isR idx : List Nat) (hC : isC.map (fun i => wx[i]?) = wc.map some) (hnc : va_nd isC = true) (hR : isR.map (fun i => wx[i]?) = wr.map some) (hnr : va_nd isR = true) (hdis : ∀ i ∈ isR, i ∉ isC) (hN : idx.map (fun i => (wr ++ w1)[i]?) = wn.map some) (hni : va_nd idx = true) (hlen : As.length = n) (hsz : ls.size = nL) (hstk : st0 = As.reverse ++ rest) (hW : (rest.map fun v => v.category).sum ≤ 8) (hdg : decode cc pc = .ok (.invokestatic index, 3)) (hcs : cells ≤ R.cells ∧ slots ≤ R.slots)
    (kk : ∀ (H1 : Heap) (locs1 : List Loc), va_P D vwCl wn H1 → va_D A wn → va_S A s.heap H1 locs1 → W p l e R s m args below meth c H1 locs1 cells slots Q (F0 m (pc + 3) ls (ov.toList ++ rest))) : W p l e R s m args below meth c H locs cells slots Q (F0 m pc ls st0) := by
  refine ct_back (va_runS (As := As) (rest := rest) Sx (hM H.size) cw ⟨Pre.blind, ct_pre E hP hD hS isC hC hnc _⟩ rfl hlen hsz hstk (lv_room hW) hdg ⟨hcs.1, hcs.2⟩) E hP hD hS isC isR hC hR hnr hdis (fun _ H1 locs1 hP1 hD1 hS1 => ?_)
  exact kk H1 locs1 (hP1.sub idx (fm_of_map hN)) (hD1.sub idx hni hN) hS1
theorem ct_SN {host : String} (Sx : CallFix p m c cc nL s args Ts own) (hM : CT l D y yy wsm rm As wc ov w1) (cw : va_CN R s args own index yy host bytes maxL ret wsm rm 0 0 n ∧ (Cond.static yy).before args s = true ∧ True) (E : Ev D y A s) (hP : va_P D vwCl wx H) (hD : va_D A wx) (hS : va_S A s.heap H locs) (isC isR idx : List Nat) (hC : isC.map (fun i => wx[i]?) = wc.map some) (hnc : va_nd isC = true) (hR : isR.map (fun i => wx[i]?) = wr.map some) (hnr : va_nd isR = true) (hdis : ∀ i ∈ isR, i ∉ isC) (hN : idx.map (fun i => (wr ++ w1)[i]?) = wn.map some) (hni : va_nd idx = true) (hlen : As.length = n) (hsz : ls.size = nL) (hstk : st0 = As.reverse ++ rest) (hW : (rest.map fun v => v.category).sum ≤ 8) (hdg : decode cc pc = .ok (.invokestatic index, 3)) (hcs : cells ≤ R.cells ∧ slots ≤ R.slots)
    (kk : ∀ (H1 : Heap) (locs1 : List Loc), va_P D vwCl wn H1 → va_D A wn → va_S A s.heap H1 locs1 → W p l e R s m args below meth c H1 locs1 cells slots Q (F0 m (pc + 3) ls (ov.toList ++ rest))) : W p l e R s m args below meth c H locs cells slots Q (F0 m pc ls st0) := by
  refine ct_back (va_runSN (As := As) (rest := rest) Sx (hM H.size) cw ⟨Pre.blind, ct_pre E hP hD hS isC hC hnc _⟩ rfl hlen hsz hstk (lv_room hW) hdg ⟨hcs.1, hcs.2⟩) E hP hD hS isC isR hC hR hnr hdis (fun _ H1 locs1 hP1 hD1 hS1 => ?_)
  exact kk H1 locs1 (hP1.sub idx (fm_of_map hN)) (hD1.sub idx hni hN) hS1
end CtCalls
section CtRows
variable {p : Program} {l : Launch} {e : Env} {R : Room} {s : State} {m : MethodId} {args : Array Value} {below : List Frame} {meth : Method} {c : Code} {H : Heap} {locs : List Loc} {cells slots : Nat} {Q : State → Prop}
variable {cc : ByteArray} {pc : Nat} {ls : Array Slot} {rest : List Value} {D : va_G} {cl : List vw_C} {a : Nat} {tys : List (ClassId × FieldType)} {ws : va_W}
theorem al_0 {i : Int32} (hi : i = 0) (hexec : p.tables.exec = Jvm.exec) (hb : c.code = cc) (hK : va_K D cl tys s) (hP : va_P D cl ws H) (q0 t0 : Nat) {cA : ClassId} {m1 m2 : Nat} (ha : ws[q0]? = some (a, .inl (cA, 2, .inr (.inr (.inr (.inr (outr m1 m2))))))) (ht : tys[t0]? = some (cA, .array .byte)) (hdg : decode cc pc = .ok (.aaload, 1))
    (kk : W p l e R s m args below meth c H locs cells slots Q (F0 m (pc + 1) ls (.ref m1 :: rest))) : W p l e R s m args below meth c H locs cells slots Q (F0 m pc ls (.int i :: .ref a :: rest)) := by
  subst hi
  exact W.aald (v := .ref m1) (ty := .array .byte) hexec hb (hP q0 _ ha) ((hK.2 t0 _ ht).1 2 (fun j => va_rf (outr m1 m2 j))) rfl (fun q => by cases q) (by show ¬ (_ < 0 ∨ (arrV _ _ _).slots.size ≤ _); rw [arrV_size]; decide) (by show (arrV _ _ _).slots[_]? = _; rw [arrV_read _ _ (by decide)]; rfl) rfl rfl hdg kk
theorem al_1 {i : Int32} (hi : i = 1) (hexec : p.tables.exec = Jvm.exec) (hb : c.code = cc) (hK : va_K D cl tys s) (hP : va_P D cl ws H) (q0 t0 : Nat) {cA : ClassId} {m1 m2 : Nat} (ha : ws[q0]? = some (a, .inl (cA, 2, .inr (.inr (.inr (.inr (outr m1 m2))))))) (ht : tys[t0]? = some (cA, .array .byte)) (hdg : decode cc pc = .ok (.aaload, 1))
    (kk : W p l e R s m args below meth c H locs cells slots Q (F0 m (pc + 1) ls (.ref m2 :: rest))) : W p l e R s m args below meth c H locs cells slots Q (F0 m pc ls (.int i :: .ref a :: rest)) := by
  subst hi
  exact W.aald (v := .ref m2) (ty := .array .byte) hexec hb (hP q0 _ ha) ((hK.2 t0 _ ht).1 2 (fun j => va_rf (outr m1 m2 j))) rfl (fun q => by cases q) (by show ¬ (_ < 0 ∨ (arrV _ _ _).slots.size ≤ _); rw [arrV_size]; decide) (by show (arrV _ _ _).slots[_]? = _; rw [arrV_read _ _ (by decide)]; rfl) rfl rfl hdg kk
end CtRows
end
