/-! 26.mna: new byte[2][n], and contracts that need it -/
def aoB (U : State) : Prop := (Cond.arrayOver (.array .byte)).before #[] U = true
theorem aoB.moved {u U : State} (hvm : u.vm.Alike U.vm) (h : aoB u) : aoB U := by
  have h2 : (Cond.arrayOver (.array .byte)).before #[] (u.setVm U.vm) = true := by
    rw [Cond.arrayOver_setVmC hvm]
    exact h
  exact h2
def CA2 (l : Launch) (D : va_G) (y : Nat → ClassId) (yy : MethodName) (ws : List Cond) (rm : Room) (av : List Value) (wp : va_W) {S : Type} (ov : S → Option Value) (wq : S → va_W) (mc ms : Nat) : Prop := ∀ sz : Nat, Met l yy ws rm (fun v U => Pre D y av wp sz v U ∧ aoB U) (Po D ov wq (va_A wp sz)) mc ms (va_A wp sz)
theorem Pre2.blind {D : va_G} {y : Nat → ClassId} {av : List Value} {ws : va_W} {sz : Nat} : FrameBlind (fun v U => Pre D y av ws sz v U ∧ aoB U) := by
  intro a U g mk q
  exact ⟨Pre.blind a U g mk q.1, aoB.moved (u := U) (U := U.calling g mk a) (Vm.Alike.refl U.vm) q.2⟩
theorem outer_two (c : ClassId) (h : Nat) : Jvm.Free.Multi.outerC c 2 h 2 = vp_cell c (2, .inr (.inr (.inr (.inr (outr (h + 1) (h + 2)))))) := by
  show ((({ cls := c, slots := Array.replicate 2 .null, vm := .none } : Cell).setSlot 0 (.ref (h + 1 + 0))).setSlot 1 (.ref (h + 1 + 1))) = _
  rw [arrV_new, arrV_store, arrV_store, vp_cell_q]
  unfold arrV
  congr 1
section CtMna
variable {p : Program} {l : Launch} {e : Env} {R : Room} {s : State} {m : MethodId} {args : Array Value} {below : List Frame} {meth : Method} {c : Code} {H : Heap} {locs : List Loc} {cells slots : Nat} {Q : State → Prop}
variable {pc : Nat} {ls : Array Slot} {rest st0 : List Value} {A : Nat → Prop} {D : va_G} {y : Nat → ClassId} {wx wc wr : va_W} {cc bytes : ByteArray} {nL maxL index n : Nat} {Ts wsm : List Cond} {own C : String} {yy : MethodName} {rm : Room} {b : Addr} {As : List Value}
theorem ct_mna (hexec : p.tables.exec = Jvm.exec) (hb : c.code = cc) {own : String} {index : Nat} (hown : s.vm.findClass own = some m.cls) (hclink : (Cond.classLink own index "[[B").before args s = true) (hao : aoB s) (harr : (Cond.arrayClass .byte).before args s = true) (E : Ev D y A s) (hP : va_P D vwCl wx H) (hD : va_D A wx) (hS : va_S A s.heap H locs) {k : Int32} {K : Nat} (hk : ¬ k < 0) (hM : k.toNatClampNeg = K) (hK : K ≤ 2048) (hcells : cells + 3 ≤ R.cells) (hslots : slots + (2 + 2 * K) ≤ R.slots) (hdg : decode cc pc = .ok (.multianewarray index 2, 4))
    (kk : ∀ (q r1 r2 : Nat) (H1 : Heap), va_P D vwCl (wx ++ [(q, .inl (y 4, 2, .inr (.inr (.inr (.inr (outr r1 r2)))))), (r1, .inl (y 0, K, .inl (fun _ => (0 : Int32)))), (r2, .inl (y 0, K, .inl (fun _ => (0 : Int32))))]) H1 → va_D A (wx ++ [(q, .inl (y 4, 2, .inr (.inr (.inr (.inr (outr r1 r2)))))), (r1, .inl (y 0, K, .inl (fun _ => (0 : Int32)))), (r2, .inl (y 0, K, .inl (fun _ => (0 : Int32))))]) → va_S A s.heap H1 locs → W p l e R s m args below meth c H1 locs (cells + 3) (slots + (2 + 2 * K)) Q (F0 m (pc + 4) ls (.ref q :: rest))) : W p l e R s m args below meth c H locs cells slots Q (F0 m pc ls (.int k :: .int 2 :: rest)) := by
  subst hM
  intro T hT X
  obtain ⟨vm₁, cA, comp, -, fA, fC, -, -, X', step⟩ := X.multianewarray2F (ty := .byte) hexec hown hclink (show (Cond.arrayOver (.array .byte)).before args s = true from hao) harr (g := F0 m pc ls (.int k :: .int 2 :: rest)) rfl (by rw [hb]; exact hdg) rfl (by decide) hk (by decide) (by show _ * 1 ≤ _; omega) (by omega) rfl rfl (by show cells + 3 ≤ _; exact hcells) (by show slots + (2 + 2 * k.toNatClampNeg) ≤ _; exact hslots)
  have e4 : cA = y 4 := Option.some.inj (fA.symm.trans (E.1.2 4 _ rfl).2)
  have e0 : comp = y 0 := Option.some.inj (fC.symm.trans (E.1.2 0 _ rfl).2)
  subst e4
  subst e0
  have h2 : (2 : Int32).toNatClampNeg = 2 := by decide
  rw [h2] at X' step
  have hTh : (T.setVm vm₁).heap = H := hT
  obtain ⟨f1, f2, -, -⟩ := Jvm.Free.Multi.fill_facts (T.setVm vm₁) (y 4) (y 0) 2 k.toNatClampNeg (defaultValue .byte) 2
  have hold : ∀ x : Nat, x < H.size → (Jvm.Free.Multi.fill (T.setVm vm₁) (y 4) (y 0) 2 k.toNatClampNeg (defaultValue .byte) 2).heap[x]? = H[x]? := fun x hx => by
    have := Jvm.Free.Multi.fill_old (T.setVm vm₁) (y 4) (y 0) 2 k.toNatClampNeg (defaultValue .byte) (a := x) (by rw [hTh]; exact hx) 2
    rw [hTh] at this
    exact this
  have hr1 := Jvm.Free.Multi.fill_inner (T.setVm vm₁) (y 4) (y 0) 2 k.toNatClampNeg (defaultValue .byte) 2 0 (by omega)
  have hr2 := Jvm.Free.Multi.fill_inner (T.setVm vm₁) (y 4) (y 0) 2 k.toNatClampNeg (defaultValue .byte) 2 1 (by omega)
  have hin : ∀ z : ClassId, Jvm.Free.Multi.innerC z k.toNatClampNeg (defaultValue .byte) = vp_cell z (k.toNatClampNeg, .inl (fun _ => (0 : Int32))) := fun z => arrV_new z _ _
  rw [hTh] at f1 f2 hr1 hr2
  rw [hin] at hr1 hr2
  rw [outer_two] at f2
  generalize Jvm.Free.Multi.fill (T.setVm vm₁) (y 4) (y 0) 2 k.toNatClampNeg (defaultValue .byte) 2 = F at X' step f1 f2 hr1 hr2 hold
  have hsz := hS.1
  have key : ∀ (q : Nat) (z : Nat × va_E), ([(H.size, .inl (y 4, 2, .inr (.inr (.inr (.inr (outr (H.size + 1) (H.size + 2))))))), (H.size + 1, .inl (y 0, k.toNatClampNeg, .inl (fun _ => (0 : Int32)))), (H.size + 2, .inl (y 0, k.toNatClampNeg, .inl (fun _ => (0 : Int32))))] : va_W)[q]? = some z → q < 3 ∧ z.1 = H.size + q ∧ va_at D vwCl z F.heap := fun q z hq => by
    have h3 : q < 3 := (List.getElem?_eq_some_iff.mp hq).1
    rcases (show q = 0 ∨ q = 1 ∨ q = 2 by omega) with rfl | rfl | rfl
    · cases hq
      exact ⟨h3, rfl, f2⟩
    · cases hq
      exact ⟨h3, rfl, hr1⟩
    · cases hq
      exact ⟨h3, rfl, hr2⟩
  have hTs : T.heap.size = H.size := by rw [hT]
  obtain ⟨t, a1, b1⟩ := kk H.size (H.size + 1) (H.size + 2) F.heap ((hP.kept (fun k9 x hx => hold x.1 ((hP k9 x hx).lt))).app (fun q z hq => (key q z hq).2.2))
    (va_D.app hD ⟨fun i j a b hi hj hab => by
        have h1 := (key i a hi).2.1
        have h2 := (key j b hj).2.1
        omega, fun q z hq => E.2.2.2 _ (by have := (key q z hq).2.1; omega)⟩ (fun i j a b hi hj hab => by
        have h1 := (hP i a hi).lt
        have h2 := (key j b hj).2.1
        omega))
    ⟨by omega, fun x h1 h2 => (hold x (Nat.lt_of_lt_of_le h1 hS.1)).trans (hS.2.1 x h1 h2), hS.2.2⟩ F rfl (by
      have e1 : cells + 3 = cells + 1 + 2 := by omega
      have e2 : slots + (2 + 2 * k.toNatClampNeg) = slots + 2 + 2 * k.toNatClampNeg := by omega
      rw [e1, e2]
      exact X')
  refine ⟨t, step t ?_, b1⟩
  rw [hTs]
  exact a1
end CtMna
