/-! 02.base: the words that all contracts of this claim share: the world, the statics, the nest links, and the call rows in one piece. -/
def FU : Nat := 4096
def jiushr (x y : Int32) : Int32 := (x.toUInt32 >>> (y.toUInt32 &&& Int32.toUInt32 31)).toInt32
def jlushr (x : Int64) (y : Int32) : Int64 := (x.toUInt64 >>> (y.toInt64.toUInt64 &&& Int64.toUInt64 63)).toInt64
def jlshl (x : Int64) (y : Int32) : Int64 := x <<< (y.toInt64 &&& 63)
def jlshr (x : Int64) (y : Int32) : Int64 := x >>> (y.toInt64 &&& 63)
def outr (m1 m2 : Nat) : Nat → Option Nat := fun j => if j = 0 then some m1 else some m2
def zb (b : Bool) : Int32 := if b then 1 else 0
theorem zb_nar (b : Bool) : narrow .boolean (.int (zb b)) = .int (zb b) := by cases b <;> rfl
theorem zb_0 (b : Bool) : zb b = 0 ↔ b = false := by cases b <;> simp [zb]
def ib (i : Int32) (n : Nat) : Bool := !(decide (i < 0) || decide (n ≤ i.toNatClampNeg))
theorem ib_in {i : Int32} {n : Nat} (h : ib i n = true) : vp_in i n := by
  intro q
  unfold ib at h
  rcases q with q | q <;> simp [q] at h
theorem in_ib {i : Int32} {n : Nat} (h : vp_in i n) : ib i n = true := by
  unfold ib
  unfold vp_in at h
  by_cases a : i < 0
  · exact absurd (Or.inl a) h
  · by_cases b : n ≤ i.toNatClampNeg
    · exact absurd (Or.inr b) h
    · simp [a, b]
theorem ibk {α : Type} {b : Bool} {T : Option α} {r : α} (h : (if b = true then T else none) = some r) : b = true ∧ T = some r := by
  cases b
  · exact absurd h (by simp)
  · exact ⟨rfl, by simpa using h⟩
theorem ifp {α : Type} {P : Prop} {dP : Decidable P} {T E : Option α} {r : α} (h : (@ite (Option α) P dP T E) = some r) (c : P) : T = some r := by
  rw [if_pos c] at h
  exact h
theorem ifn {α : Type} {P : Prop} {dP : Decidable P} {T E : Option α} {r : α} (h : (@ite (Option α) P dP T E) = some r) (c : ¬ P) : E = some r := by
  rw [if_neg c] at h
  exact h
theorem obd {α β : Type} {x : Option α} {f : α → Option β} {r : β} (h : x.bind f = some r) : ∃ a, x = some a ∧ f a = some r := by
  cases x with
  | none => exact absurd h (by simp)
  | some a => exact ⟨a, rfl, h⟩
/-- the array classes: byte, int, long, boolean, byte[] -/
abbrev wT (y : Nat → ClassId) : List (ClassId × FieldType) := [(y 0, .byte), (y 1, .int), (y 2, .long), (y 3, .boolean), (y 4, .array .byte)]
def crcL : List Int32 := [0, 498536548, 997073096, 651767980, 1994146192, 1802195444, 1303535960, 1342533948, -306674912, -267414716, -690576408, -882789492, -1687895376, -2032938284, -1609899400, -1111625188]
def crcT (j : Nat) : Int32 := crcL.getD j 0
def sOk (A : Nat → Prop) (U : State) (H : Heap) : Prop := ∃ t : Nat, va_Z "SampleTracker$Crc" "OF_HALF_BYTE" "[I" (.ref t) A U H ∧ va_T .int t 16 (fun j => .int (crcT j)) A U H
def nWf : List Cond := [.fieldLinkNest RX8 189 RX2 "volume" "J" RX8, .fieldLinkNest RX8 196 RX2 "well" "I" RX8, .fieldLinkNest RX5 46 RX2 "kind" "I" RX8, .fieldLinkNest RX5 53 RX2 "sample" "I" RX8, .fieldLinkNest RX5 59 RX2 "well" "I" RX8, .fieldLinkNest RX5 65 RX2 "volume" "J" RX8, .fieldLinkNest RX7 106 RX2 "volume" "J" RX8, .fieldLinkNest RX7 113 RX2 "well" "I" RX8, .fieldLinkNest RX7 120 RX2 "sample" "I" RX8, .fieldLinkNest RX7 82 RX2 "kind" "I" RX8]
def nWm : List Cond := [.methodLinkNest RX8 11 yX6_init RX8, .methodLinkNest RX8 36 yX7_init RX8, .methodLinkNest RX8 43 yX2_init RX8, .methodLinkNest RX3 45 yX6_init RX8, .methodLinkNest RX7 28 yX4_init RX8, .methodLinkNest RX7 51 yX8_isWell RX8]
def nOk (U : State) : Prop := (∀ w ∈ nWf, va_Nw w U) ∧ ∀ w ∈ nWm, va_Nw w U
theorem nWf_on : ∀ w ∈ nWf, w.onTables = true := by decide +kernel
theorem nWm_on : ∀ w ∈ nWm, w.onTables = true := by decide +kernel
theorem nOk.same {u U : State} (h : u.vm = U.vm) (q : nOk u) : nOk U := ⟨fun w hw => va_Nw.same (nWf_on w hw) h (q.1 w hw), fun w hw => va_Nw.same (nWm_on w hw) h (q.2 w hw)⟩
theorem nOk.warm {s U : State} (hW : s.WarmedH U.vm) (q : nOk s) : nOk U := by
  refine ⟨fun w hw => ?_, fun w hw => ?_⟩
  · have h := q.1 w hw
    simp only [nWf, List.mem_cons, List.not_mem_nil, or_false] at hw
    rcases hw with rfl | rfl | rfl | rfl | rfl | rfl | rfl | rfl | rfl | rfl <;> exact va_Nw.warmF hW h
  · have h := q.2 w hw
    simp only [nWm, List.mem_cons, List.not_mem_nil, or_false] at hw
    rcases hw with rfl | rfl | rfl | rfl | rfl | rfl <;> exact va_Nw.warmM hW h
def Pre (D : va_G) (y : Nat → ClassId) (av : List Value) (ws : va_W) (sz : Nat) : Array Value → State → Prop := fun v U => v = av.toArray ∧ U.heap.size = sz ∧ va_P D vwCl ws U.heap ∧ va_K D vwCl (wT y) U ∧ va_D (fun _ => True) ws ∧ sOk (va_A ws sz) U U.heap ∧ nOk U
def Po (D : va_G) {S : Type} (ov : S → Option Value) (wq : S → va_W) (A : Nat → Prop) : Array Value → State → Outcome → State → Prop := fun _ st oc t => (∃ u : S, oc = .returned (ov u) ∧ va_P D vwCl (wq u) t.heap ∧ va_D A (wq u)) ∧ va_F A st t
/-- a contract: from the world wp with the arguments av the method answers ov and leaves the world w1; nothing is made -/
def CT (l : Launch) (D : va_G) (y : Nat → ClassId) (yy : MethodName) (ws : List Cond) (rm : Room) (av : List Value) (wp : va_W) (ov : Option Value) (w1 : va_W) : Prop := ∀ sz : Nat, Met l yy ws rm (Pre D y av wp sz) (Po D (fun _ : Unit => ov) (fun _ => w1) (va_A wp sz)) 0 0 (va_A wp sz)
/-- what holds of the start of a method, all along it -/
def Ev (D : va_G) (y : Nat → ClassId) (A : Nat → Prop) (s : State) : Prop := va_K D vwCl (wT y) s ∧ sOk A s s.heap ∧ nOk s ∧ ∀ q : Nat, s.heap.size ≤ q → A q
theorem Pre.blind {D : va_G} {y : Nat → ClassId} {av : List Value} {ws : va_W} {sz : Nat} : FrameBlind (Pre D y av ws sz) := by
  intro a U g mk q
  obtain ⟨q0, q1, qP, qK, qD, ⟨t, qz, qt⟩, qN⟩ := q
  exact ⟨q0, q1, qP, va_K.moved (u := U) (U := U.calling g mk a) (Vm.Alike.refl U.vm) qK, qD, ⟨t, va_Z.moved (u := U) (U := U.calling g mk a) (Vm.Alike.refl U.vm) qz, va_T.moved (u := U) (U := U.calling g mk a) (Vm.Alike.refl U.vm) qt⟩, nOk.same (u := U) (U := U.calling g mk a) rfl qN⟩
theorem fm_of_map {α : Type} {is : List Nat} {f : Nat → Option α} {l : List α} (h : is.map f = l.map some) : is.filterMap f = l := by
  induction is generalizing l with
  | nil =>
    cases l with
    | nil => rfl
    | cons a t => simp at h
  | cons i t ih =>
    cases l with
    | nil => simp at h
    | cons a r =>
      simp only [List.map_cons, List.cons.injEq] at h
      rw [List.filterMap_cons, h.1]
      simp [ih h.2]
theorem sOk.pass {A B : Nat → Prop} {s U : State} {H : Heap} {locs : List Loc} (h : sOk A s s.heap) (hS : va_S A s.heap H locs) (hF : ∀ q, B q → A q) (hU : U.heap = H) (hW : s.WarmedH U.vm) : sOk B U U.heap := by
  obtain ⟨t, hz, ht⟩ := h
  rw [hU]
  exact ⟨t, va_Z.moved hW.alike ((hz.kept (H1 := H) (fun a h1 h2 => hS.2.1 a h1 h2)).narrow hF), va_T.moved hW.alike ((ht.kept (H1 := H) (fun a h1 h2 => hS.2.1 a h1 h2)).narrow hF)⟩
section CtCalls
variable {p : Program} {l : Launch} {e : Env} {R : Room} {s : State} {m : MethodId} {args : Array Value} {below : List Frame} {meth : Method} {c : Code} {H : Heap} {locs : List Loc} {cells slots : Nat} {Q : State → Prop}
variable {pc : Nat} {ls : Array Slot} {rest st0 : List Value} {A : Nat → Prop} {D : va_G} {y : Nat → ClassId} {wx wc wr w1 wn : va_W} {cc bytes : ByteArray} {nL maxL index n : Nat} {Ts wsm : List Cond} {own C : String} {yy : MethodName} {ret : Option FieldType} {rm : Room} {b : Addr} {As : List Value} {ov : Option Value}
theorem ct_pre (E : Ev D y A s) (hP : va_P D vwCl wx H) (hD : va_D A wx) (hS : va_S A s.heap H locs) (isC : List Nat) (hC : isC.map (fun i => wx[i]?) = wc.map some) (hnc : va_nd isC = true) (av : List Value) : ∀ U : State, U.heap = H → s.WarmedH U.vm → Pre D y av wc H.size av.toArray U := by
  intro U hU hW
  refine ⟨rfl, by rw [hU], by rw [hU]; exact hP.sub isC (fm_of_map hC), va_K.moved hW.alike E.1, (hD.sub isC hnc hC).weaken (fun _ _ _ _ => trivial), ?_, E.2.2.1.warm hW⟩
  exact E.2.1.pass hS (va_free hD hS E.2.2.2 isC hC) hU hW
theorem ct_back {S : Type} {ovs : S → Option Value} {wq : S → va_W} {mc ms : Nat} {a : Array Value} (hr : va_Run p l e R s m args below meth c H locs cells slots mc ms (F0 m pc ls st0) rest (Po D ovs wq (va_A wc H.size) a) (va_A wc H.size)) (E : Ev D y A s) (hP : va_P D vwCl wx H) (hD : va_D A wx) (hS : va_S A s.heap H locs) (isC isR : List Nat) (hC : isC.map (fun i => wx[i]?) = wc.map some) (hR : isR.map (fun i => wx[i]?) = wr.map some) (hnr : va_nd isR = true) (hdis : ∀ i ∈ isR, i ∉ isC)
    (kk : ∀ (u : S) (H1 : Heap) (locs1 : List Loc), va_P D vwCl (wr ++ wq u) H1 → va_D A (wr ++ wq u) → va_S A s.heap H1 locs1 → W p l e R s m args below meth c H1 locs1 (cells + mc) (slots + ms) Q (F0 m (pc + 3) ls ((ovs u).toList ++ rest))) : W p l e R s m args below meth c H locs cells slots Q (F0 m pc ls st0) := by
  intro T hT X
  obtain ⟨v, st₀, t, T', L, h0, X', hL, e1, e2, ⟨⟨u, hv, hp, hd⟩, hz, hk⟩, st⟩ := hr T hT X
  cases hv
  rw [h0] at hz hk
  have hF := va_free hD hS E.2.2.2 isC hC
  obtain ⟨hPj, hDj⟩ := va_join (H1 := t.heap) hP hD isC isR hC hR hnr hdis hk hF hp hd
  obtain ⟨t2, a1, b1⟩ := kk u T'.heap (locs ++ L) (by rw [e1]; exact hPj) hDj ⟨Nat.le_trans hS.1 (by rw [e1]; exact hz), fun q h1 h2 => by rw [e1, hk q (Nat.lt_of_lt_of_le h1 hS.1) (fun z => h2 (hF q z))]; exact hS.2.1 q h1 h2, fun q hq => by
      rcases List.mem_append.mp hq with h | h
      · exact hS.2.2 q h
      · exact hF _ (hL q h)⟩ T' rfl X'
  exact ⟨t2, st t2 a1, b1⟩
theorem ct_V (Sx : CallFix p m c cc nL s args Ts own) (hM : CT l D y yy wsm rm (.ref b :: As) wc ov w1) (cw : CallW R s args own C index yy bytes maxL ret wsm rm 0 0 n) (E : Ev D y A s) (hP : va_P D vwCl wx H) (hD : va_D A wx) (hS : va_S A s.heap H locs) (isC isR idx : List Nat) (hC : isC.map (fun i => wx[i]?) = wc.map some) (hnc : va_nd isC = true) (hR : isR.map (fun i => wx[i]?) = wr.map some) (hnr : va_nd isR = true) (hdis : ∀ i ∈ isR, i ∉ isC) (hN : idx.map (fun i => (wr ++ w1)[i]?) = wn.map some) (hni : va_nd idx = true) (q0 ci : Nat) {T : u_T} {N : Nat} {fs : List Value} (hc : vwCl[ci]? = some (C, T, N)) (he : wc[q0]? = some (b, .inr (ci, fs))) (hlen : As.length = n) (hsz : ls.size = nL) (hstk : st0 = As.reverse ++ .ref b :: rest) (hW : (rest.map fun v => v.category).sum ≤ 8) (hdg : decode cc pc = .ok (.invokevirtual index, 3)) (hcs : cells ≤ R.cells ∧ slots ≤ R.slots)
    (kk : ∀ (H1 : Heap) (locs1 : List Loc), va_P D vwCl wn H1 → va_D A wn → va_S A s.heap H1 locs1 → W p l e R s m args below meth c H1 locs1 cells slots Q (F0 m (pc + 3) ls (ov.toList ++ rest))) : W p l e R s m args below meth c H locs cells slots Q (F0 m pc ls st0) := by
  refine ct_back (va_runV (As := As) (rest := rest) (b := b) Sx (hM H.size) cw ⟨Pre.blind, va_recv E.1 (hP.sub isC (fm_of_map hC)) hc he, ct_pre E hP hD hS isC hC hnc _⟩ rfl hlen hsz hstk (lv_room hW) hdg ⟨hcs.1, hcs.2⟩) E hP hD hS isC isR hC hR hnr hdis (fun _ H1 locs1 hP1 hD1 hS1 => ?_)
  exact kk H1 locs1 (hP1.sub idx (fm_of_map hN)) (hD1.sub idx hni hN) hS1
theorem ct_S (Sx : CallFix p m c cc nL s args Ts own) (hM : CT l D y yy wsm rm As wc ov w1) (cw : CallB R s args own index yy bytes maxL ret wsm rm 0 0 n ∧ (Cond.static yy).before args s = true) (E : Ev D y A s) (hP : va_P D vwCl wx H) (hD : va_D A wx) (hS : va_S A s.heap H locs) (isC isR idx : List Nat) (hC : isC.map (fun i => wx[i]?) = wc.map some) (hnc : va_nd isC = true) (hR : isR.map (fun i => wx[i]?) = wr.map some) (hnr : va_nd isR = true) (hdis : ∀ i ∈ isR, i ∉ isC) (hN : idx.map (fun i => (wr ++ w1)[i]?) = wn.map some) (hni : va_nd idx = true) (hlen : As.length = n) (hsz : ls.size = nL) (hstk : st0 = As.reverse ++ rest) (hW : (rest.map fun v => v.category).sum ≤ 8) (hdg : decode cc pc = .ok (.invokestatic index, 3)) (hcs : cells ≤ R.cells ∧ slots ≤ R.slots)
    (kk : ∀ (H1 : Heap) (locs1 : List Loc), va_P D vwCl wn H1 → va_D A wn → va_S A s.heap H1 locs1 → W p l e R s m args below meth c H1 locs1 cells slots Q (F0 m (pc + 3) ls (ov.toList ++ rest))) : W p l e R s m args below meth c H locs cells slots Q (F0 m pc ls st0) := by
  refine ct_back (va_runS (As := As) (rest := rest) Sx (hM H.size) cw ⟨Pre.blind, ct_pre E hP hD hS isC hC hnc _⟩ rfl hlen hsz hstk (lv_room hW) hdg ⟨hcs.1, hcs.2⟩) E hP hD hS isC isR hC hR hnr hdis (fun _ H1 locs1 hP1 hD1 hS1 => ?_)
  exact kk H1 locs1 (hP1.sub idx (fm_of_map hN)) (hD1.sub idx hni hN) hS1
theorem ct_SN {host : String} (Sx : CallFix p m c cc nL s args Ts own) (hM : CT l D y yy wsm rm As wc ov w1) (cw : va_CN R s args own index yy host bytes maxL ret wsm rm 0 0 n ∧ (Cond.static yy).before args s = true ∧ True) (E : Ev D y A s) (hP : va_P D vwCl wx H) (hD : va_D A wx) (hS : va_S A s.heap H locs) (isC isR idx : List Nat) (hC : isC.map (fun i => wx[i]?) = wc.map some) (hnc : va_nd isC = true) (hR : isR.map (fun i => wx[i]?) = wr.map some) (hnr : va_nd isR = true) (hdis : ∀ i ∈ isR, i ∉ isC) (hN : idx.map (fun i => (wr ++ w1)[i]?) = wn.map some) (hni : va_nd idx = true) (hlen : As.length = n) (hsz : ls.size = nL) (hstk : st0 = As.reverse ++ rest) (hW : (rest.map fun v => v.category).sum ≤ 8) (hdg : decode cc pc = .ok (.invokestatic index, 3)) (hcs : cells ≤ R.cells ∧ slots ≤ R.slots)
    (kk : ∀ (H1 : Heap) (locs1 : List Loc), va_P D vwCl wn H1 → va_D A wn → va_S A s.heap H1 locs1 → W p l e R s m args below meth c H1 locs1 cells slots Q (F0 m (pc + 3) ls (ov.toList ++ rest))) : W p l e R s m args below meth c H locs cells slots Q (F0 m pc ls st0) := by
  refine ct_back (va_runSN (As := As) (rest := rest) Sx (hM H.size) cw ⟨Pre.blind, ct_pre E hP hD hS isC hC hnc _⟩ rfl hlen hsz hstk (lv_room hW) hdg ⟨hcs.1, hcs.2⟩) E hP hD hS isC isR hC hR hnr hdis (fun _ H1 locs1 hP1 hD1 hS1 => ?_)
  exact kk H1 locs1 (hP1.sub idx (fm_of_map hN)) (hD1.sub idx hni hN) hS1
end CtCalls
section CtRows
variable {p : Program} {l : Launch} {e : Env} {R : Room} {s : State} {m : MethodId} {args : Array Value} {below : List Frame} {meth : Method} {c : Code} {H : Heap} {locs : List Loc} {cells slots : Nat} {Q : State → Prop}
variable {cc : ByteArray} {pc : Nat} {ls : Array Slot} {rest : List Value} {D : va_G} {cl : List vw_C} {a : Nat} {tys : List (ClassId × FieldType)} {ws : va_W}
theorem al_0 {i : Int32} (hi : i = 0) (hexec : p.tables.exec = Jvm.exec) (hb : c.code = cc) (hK : va_K D cl tys s) (hP : va_P D cl ws H) (q0 t0 : Nat) {cA : ClassId} {m1 m2 : Nat} (ha : ws[q0]? = some (a, .inl (cA, 2, .inr (.inr (.inr (.inr (outr m1 m2))))))) (ht : tys[t0]? = some (cA, .array .byte)) (hdg : decode cc pc = .ok (.aaload, 1))
    (kk : W p l e R s m args below meth c H locs cells slots Q (F0 m (pc + 1) ls (.ref m1 :: rest))) : W p l e R s m args below meth c H locs cells slots Q (F0 m pc ls (.int i :: .ref a :: rest)) := by
  subst hi
  exact W.aald (v := .ref m1) (ty := .array .byte) hexec hb (hP q0 _ ha) ((hK.2 t0 _ ht).1 2 (fun j => va_rf (outr m1 m2 j))) rfl (fun q => by cases q) (by show ¬ (_ < 0 ∨ (arrV _ _ _).slots.size ≤ _); rw [arrV_size]; show ¬ (_ < _ ∨ 2 ≤ _); decide) (by show (arrV _ _ _).slots[_]? = _; rw [arrV_read _ _ (by show _ < 2; decide)]; rfl) rfl rfl hdg kk
theorem al_1 {i : Int32} (hi : i = 1) (hexec : p.tables.exec = Jvm.exec) (hb : c.code = cc) (hK : va_K D cl tys s) (hP : va_P D cl ws H) (q0 t0 : Nat) {cA : ClassId} {m1 m2 : Nat} (ha : ws[q0]? = some (a, .inl (cA, 2, .inr (.inr (.inr (.inr (outr m1 m2))))))) (ht : tys[t0]? = some (cA, .array .byte)) (hdg : decode cc pc = .ok (.aaload, 1))
    (kk : W p l e R s m args below meth c H locs cells slots Q (F0 m (pc + 1) ls (.ref m2 :: rest))) : W p l e R s m args below meth c H locs cells slots Q (F0 m pc ls (.int i :: .ref a :: rest)) := by
  subst hi
  exact W.aald (v := .ref m2) (ty := .array .byte) hexec hb (hP q0 _ ha) ((hK.2 t0 _ ht).1 2 (fun j => va_rf (outr m1 m2 j))) rfl (fun q => by cases q) (by show ¬ (_ < 0 ∨ (arrV _ _ _).slots.size ≤ _); rw [arrV_size]; show ¬ (_ < _ ∨ 2 ≤ _); decide) (by show (arrV _ _ _).slots[_]? = _; rw [arrV_read _ _ (by show _ < 2; decide)]; rfl) rfl rfl hdg kk
end CtRows
