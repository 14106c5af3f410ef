/-! 24.base2: contracts of constructors: new cells -/
def CA (l : Launch) (D : va_G) (y : Nat → ClassId) (yy : MethodName) (ws : List Cond) (rm : Room) (av : List Value) (wp : va_W) {S : Type} (ov : S → Option Value) (wq : S → va_W) (mc ms : Nat) : Prop := ∀ sz : Nat, Met l yy ws rm (Pre D y av wp sz) (Po D ov wq (va_A wp sz)) mc ms (va_A wp sz)
def szOk (v : Int32) (nb : Nat) : Prop := v = nI nb ∧ 64 ≤ nb ∧ nb ≤ 2048
theorem sz_m {v : Int32} {nb : Nat} (h : szOk v nb) : (if (0 : Int32) < v then v else (0 : Int32)) = nI nb := by
  obtain ⟨rfl, h1, h2⟩ := h
  have h0 : (0 : Int32) < nI nb := by
    have := nI_lt (a := 0) (b := nb) (by omega) (by omega)
    rwa [nI_0] at this
  rw [if_pos h0]
theorem sz_n {v : Int32} {nb : Nat} (h : szOk v nb) : ¬ (if (0 : Int32) < v then v else (0 : Int32)) < 0 := by
  rw [sz_m h]
  obtain ⟨-, h1, h2⟩ := h
  exact nI_pos (by omega)
theorem sz_N {v : Int32} {nb : Nat} (h : szOk v nb) : (if (0 : Int32) < v then v else (0 : Int32)).toNatClampNeg = nb := by
  rw [sz_m h]
  obtain ⟨-, h1, h2⟩ := h
  exact nI_clamp (by omega)
theorem sz_b {v : Int32} {nb : Nat} (h : szOk v nb) : nb * componentBytes .byte ≤ 536870912 := by
  obtain ⟨-, h1, h2⟩ := h
  show nb * 1 ≤ 536870912
  omega
section CtNew
variable {p : Program} {l : Launch} {e : Env} {R : Room} {s : State} {m : MethodId} {args : Array Value} {below : List Frame} {meth : Method} {c : Code} {H : Heap} {locs : List Loc} {cells slots : Nat} {Q : State → Prop}
variable {pc : Nat} {ls : Array Slot} {rest st0 : List Value} {A : Nat → Prop} {D : va_G} {y : Nat → ClassId} {wx wc wr : va_W} {cc bytes : ByteArray} {nL maxL index n : Nat} {Ts wsm : List Cond} {own C : String} {yy : MethodName} {rm : Room} {b : Addr} {As : List Value}
theorem ct_I {S : Type} {wq : S → va_W} {mc ms : Nat} (Sx : CallFix p m c cc nL s args Ts own) (hM : CA l D y yy wsm rm (.ref b :: As) wc (fun _ : S => none) wq mc ms) (cw : CallB R s args own index yy bytes maxL none wsm rm mc ms n ∧ yy.name = "<init>" ∧ (Cond.instanceMethod yy).before args s = true) (E : Ev D y A s) (hP : va_P D vwCl wx H) (hD : va_D A wx) (hS : va_S A s.heap H locs) (isC isR : List Nat) (hC : isC.map (fun i => wx[i]?) = wc.map some) (hnc : va_nd isC = true) (hR : isR.map (fun i => wx[i]?) = wr.map some) (hnr : va_nd isR = true) (hdis : ∀ i ∈ isR, i ∉ isC) (hlen : As.length = n) (hsz : ls.size = nL) (hstk : st0 = As.reverse ++ .ref b :: rest) (hW : (rest.map fun v => v.category).sum ≤ 8) (hdg : decode cc pc = .ok (.invokespecial index, 3)) (hcs : cells + mc ≤ R.cells ∧ slots + ms ≤ R.slots)
    (kk : ∀ (u : S) (H1 : Heap) (locs1 : List Loc), va_P D vwCl (wr ++ wq u) H1 → va_D A (wr ++ wq u) → va_S A s.heap H1 locs1 → W p l e R s m args below meth c H1 locs1 (cells + mc) (slots + ms) Q (F0 m (pc + 3) ls rest)) : W p l e R s m args below meth c H locs cells slots Q (F0 m pc ls st0) := by
  exact ct_back (va_runI (As := As) (rest := rest) (b := b) Sx (hM H.size) cw ⟨Pre.blind, ct_pre E hP hD hS isC hC hnc _⟩ rfl hlen hsz hstk (lv_room hW) hdg hcs) E hP hD hS isC isR hC hR hnr hdis kk
theorem ct_IN {host : String} {S : Type} {wq : S → va_W} {mc ms : Nat} (Sx : CallFix p m c cc nL s args Ts own) (hM : CA l D y yy wsm rm (.ref b :: As) wc (fun _ : S => none) wq mc ms) (cw : va_CN R s args own index yy host bytes maxL none wsm rm mc ms n ∧ yy.name = "<init>" ∧ (Cond.instanceMethod yy).before args s = true) (E : Ev D y A s) (hP : va_P D vwCl wx H) (hD : va_D A wx) (hS : va_S A s.heap H locs) (isC isR : List Nat) (hC : isC.map (fun i => wx[i]?) = wc.map some) (hnc : va_nd isC = true) (hR : isR.map (fun i => wx[i]?) = wr.map some) (hnr : va_nd isR = true) (hdis : ∀ i ∈ isR, i ∉ isC) (hlen : As.length = n) (hsz : ls.size = nL) (hstk : st0 = As.reverse ++ .ref b :: rest) (hW : (rest.map fun v => v.category).sum ≤ 8) (hdg : decode cc pc = .ok (.invokespecial index, 3)) (hcs : cells + mc ≤ R.cells ∧ slots + ms ≤ R.slots)
    (kk : ∀ (u : S) (H1 : Heap) (locs1 : List Loc), va_P D vwCl (wr ++ wq u) H1 → va_D A (wr ++ wq u) → va_S A s.heap H1 locs1 → W p l e R s m args below meth c H1 locs1 (cells + mc) (slots + ms) Q (F0 m (pc + 3) ls rest)) : W p l e R s m args below meth c H locs cells slots Q (F0 m pc ls st0) := by
  exact ct_back (va_runIN (As := As) (rest := rest) (b := b) Sx (hM H.size) cw ⟨Pre.blind, ct_pre E hP hD hS isC hC hnc _⟩ rfl hlen hsz hstk (lv_room hW) hdg hcs) E hP hD hS isC isR hC hR hnr hdis kk
theorem ct_newa (hexec : p.tables.exec = Jvm.exec) (hb : c.code = cc) {atype : ArrayType} {ty : FieldType} {a0 : vp_A} (harr : (Cond.arrayClass (newarray.typeOf atype)).before args s = true) (hty : newarray.typeOf atype = ty) (E : Ev D y A s) (k : Nat) (hk : (wT y)[k]? = some (y k, ty)) (hra : ∀ q : ClassId, va_RA s q ty → s.vm.findClass ("[" ++ ty.toString) = some q) (hP : va_P D vwCl wx H) (hD : va_D A wx) (hS : va_S A s.heap H locs)
    {n : Int32} {N' : Nat} (ha : ∀ cA : ClassId, vp_cell cA a0 = arrV cA N' (fun _ => defaultValue ty)) (hn : ¬ n < 0) (hN : n.toNatClampNeg = N') (hbytes : N' * componentBytes ty ≤ 536870912) (hcells : cells + 1 ≤ R.cells) (hslots : slots + N' ≤ R.slots) (hdg : decode cc pc = .ok (.newarray atype, 2))
    (kk : ∀ (q : Nat) (H1 : Heap), va_P D vwCl (wx ++ [(q, .inl (y k, a0))]) H1 → va_D A (wx ++ [(q, .inl (y k, a0))]) → va_S A s.heap H1 locs → W p l e R s m args below meth c H1 locs (cells + 1) (slots + N') Q (F0 m (pc + 2) ls (.ref q :: rest))) : W p l e R s m args below meth c H locs cells slots Q (F0 m pc ls (.int n :: rest)) := by
  refine va_newa hexec hb harr hty E.1 hP hD hS E.2.2.2 ha hn hN hbytes hcells hslots hdg (fun q cA H1 hK' hP' hD' hS' => ?_)
  have h1 := hra _ (E.1.2 k _ hk).2
  have h2 := hra _ (hK'.2 5 (cA, ty) rfl).2
  have e1 : cA = y k := Option.some.inj (h2.symm.trans h1)
  subst e1
  exact kk q H1 hP' hD' hS'
end CtNew
