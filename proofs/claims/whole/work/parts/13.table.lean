/-! 13.table: laid by wip/whole/gen.py: mirrors and contracts -/
def fX8_isWell (p1 : Int32) : Option (Bool) := (if p1 < 0 then some false else (if (48 : Int32) ≤ p1 then some false else some true))

set_option maxHeartbeats 4000000 in
set_option maxRecDepth 100000 in
theorem cX8_isWell_ok (l : Launch) (D : va_G) (y : Nat → ClassId) (p1 : Int32) (res : Bool) (hf : fX8_isWell p1 = some res) : CT l D y yX8_isWell wsX8_isWell ({ frames := 0, cells := 0, slots := 0, locals := 0 } : Room) [.int p1] [] (some (.int (zb res))) [] := by
  intro sz
  refine Met.ofW (cc := cX8_isWell) (maxL := 1) (ret := (some .boolean)) (by decide) rfl ?_
  intro p e s m args below meth c s₁ B hml hv
  obtain ⟨rfl, hsz, hP, hK, hD0, hst, hno⟩ := hv
  have hx := B.exec
  have hb := B.bytes
  have hr := B.returns
  have hts := atoms_spec (ws := wsX8_isWell) B.pre
  have hown : s.vm.findClass RX8 = some m.cls := findClass_of_methodNamed B.named
  have hlocks := B.notSynchronized
  subst hsz
  have hD := hD0.self (sz := s.heap.size)
  generalize hAe : va_A [] s.heap.size = A at hD hst ⊢
  have hA : ∀ q : Nat, s.heap.size ≤ q → A q := fun q h => by rw [← hAe]; exact Or.inr h
  have hS : va_S A s.heap s.heap [] := va_S.rf
  have E : Ev D y A s := ⟨hK, hst, hno, hA⟩
  have hfix : CallFix p m c cX8_isWell 1 s _ wsX8_isWell RX8 := ⟨hx, hb, hml, hown, hts⟩
  have hP : va_P D vwCl [] s.heap := hP
  have hl := lv_entry ([.int p1]) (n := 1) (Nat.le_of_ble_eq_true rfl)
  rw [lg_entry_eq]
  generalize (lg_sl ([.int p1]) ++ List.replicate (1 - (lg_sl ([.int p1])).length) Slot.unset).toArray = ls at hl ⊢
  have hl : lv_has ls 1 [(0, .int p1)] := hl
  unfold fX8_isWell at hf
  refine lv_iload_n hx hb dX8_isWell_0 rfl (lv_at hl 0 rfl) ?_
  refine lv_if_lt (tgt := 14) hx hb dX8_isWell_1 (by decide) (fun c_1 => ?_) (fun c_1 => ?_)
  · have hf := ifp hf c_1
    refine lv_iconst (v := (0 : Int32)) hx hb dX8_isWell_14 (by decide) ?_
    obtain rfl := Option.some.inj hf
    exact W.zret (ty := .boolean) hx hb hr rfl (fun t ht hW => ⟨⟨(), rfl, by rw [ht]; exact hP, hD⟩, hS.F ht⟩) hS.2.2 dX8_isWell_15
  · have hf := ifn hf c_1
    refine lv_iload_n hx hb dX8_isWell_4 rfl (lv_at hl 0 rfl) ?_
    refine lv_bipush (v := (48 : Int32)) hx hb dX8_isWell_5 (by decide) ?_
    refine lv_icmp_ge (tgt := 14) hx hb dX8_isWell_7 (by decide) (fun c_2 => ?_) (fun c_2 => ?_)
    · have hf := ifp hf c_2
      refine lv_iconst (v := (0 : Int32)) hx hb dX8_isWell_14 (by decide) ?_
      obtain rfl := Option.some.inj hf
      exact W.zret (ty := .boolean) hx hb hr rfl (fun t ht hW => ⟨⟨(), rfl, by rw [ht]; exact hP, hD⟩, hS.F ht⟩) hS.2.2 dX8_isWell_15
    · have hf := ifn hf c_2
      refine lv_iconst (v := (1 : Int32)) hx hb dX8_isWell_10 (by decide) ?_
      refine lv_goto (tgt := 15) hx hb dX8_isWell_11 (by decide) ?_
      obtain rfl := Option.some.inj hf
      exact W.zret (ty := .boolean) hx hb hr rfl (fun t ht hW => ⟨⟨(), rfl, by rw [ht]; exact hP, hD⟩, hS.F ht⟩) hS.2.2 dX8_isWell_15

set_option maxHeartbeats 4000000 in
set_option maxRecDepth 100000 in
theorem cX7_sampleCount_ok (l : Launch) (D : va_G) (y : Nat → ClassId) (atb : Nat) (tp : Nat) (tw : Nat) (tv : Nat) (tf : Nat) (aq : Nat) (u0 : Nat) (u1 : Nat) (u2 : Nat) (u3 : Nat) (u4 : Nat) (pa : Nat → Int32) (we : Nat → Int32) (vo : Nat → Int64) (fm : Nat → Int32) (sa : Int32) (lo : Int64) (qs : Nat → Int32) (ql : Nat → Int64) (qt : Nat → Int32) (qw : Nat → Int32) (qv : Nat → Int64) (qn : Int32) : CT l D y yX7_sampleCount wsX7_sampleCount ({ frames := 0, cells := 0, slots := 0, locals := 0 } : Room) [.ref atb] [(atb, .inr (6, [.ref tp, .ref tw, .ref tv, .ref tf, .ref aq, .int sa, .long lo])), (tp, .inl (y 1, 121, .inl pa)), (tw, .inl (y 1, 121, .inl we)), (tv, .inl (y 2, 121, .inr (.inl vo))), (tf, .inl (y 3, 121, .inl fm)), (aq, .inr (3, [.ref u0, .ref u1, .ref u2, .ref u3, .ref u4, .int qn])), (u0, .inl (y 1, 256, .inl qs)), (u1, .inl (y 2, 256, .inr (.inl ql))), (u2, .inl (y 1, 256, .inl qt)), (u3, .inl (y 1, 256, .inl qw)), (u4, .inl (y 2, 256, .inr (.inl qv)))] (some (.int sa)) [(atb, .inr (6, [.ref tp, .ref tw, .ref tv, .ref tf, .ref aq, .int sa, .long lo])), (tp, .inl (y 1, 121, .inl pa)), (tw, .inl (y 1, 121, .inl we)), (tv, .inl (y 2, 121, .inr (.inl vo))), (tf, .inl (y 3, 121, .inl fm)), (aq, .inr (3, [.ref u0, .ref u1, .ref u2, .ref u3, .ref u4, .int qn])), (u0, .inl (y 1, 256, .inl qs)), (u1, .inl (y 2, 256, .inr (.inl ql))), (u2, .inl (y 1, 256, .inl qt)), (u3, .inl (y 1, 256, .inl qw)), (u4, .inl (y 2, 256, .inr (.inl qv)))] := by
  intro sz
  refine Met.ofW (cc := cX7_sampleCount) (maxL := 1) (ret := (some .int)) (by decide) rfl ?_
  intro p e s m args below meth c s₁ B hml hv
  obtain ⟨rfl, hsz, hP, hK, hD0, hst, hno⟩ := hv
  have hx := B.exec
  have hb := B.bytes
  have hr := B.returns
  have hts := atoms_spec (ws := wsX7_sampleCount) B.pre
  have hown : s.vm.findClass RX7 = some m.cls := findClass_of_methodNamed B.named
  have hlocks := B.notSynchronized
  subst hsz
  have hD := hD0.self (sz := s.heap.size)
  generalize hAe : va_A [(atb, .inr (6, [.ref tp, .ref tw, .ref tv, .ref tf, .ref aq, .int sa, .long lo])), (tp, .inl (y 1, 121, .inl pa)), (tw, .inl (y 1, 121, .inl we)), (tv, .inl (y 2, 121, .inr (.inl vo))), (tf, .inl (y 3, 121, .inl fm)), (aq, .inr (3, [.ref u0, .ref u1, .ref u2, .ref u3, .ref u4, .int qn])), (u0, .inl (y 1, 256, .inl qs)), (u1, .inl (y 2, 256, .inr (.inl ql))), (u2, .inl (y 1, 256, .inl qt)), (u3, .inl (y 1, 256, .inl qw)), (u4, .inl (y 2, 256, .inr (.inl qv)))] s.heap.size = A at hD hst ⊢
  have hA : ∀ q : Nat, s.heap.size ≤ q → A q := fun q h => by rw [← hAe]; exact Or.inr h
  have hS : va_S A s.heap s.heap [] := va_S.rf
  have E : Ev D y A s := ⟨hK, hst, hno, hA⟩
  have hfix : CallFix p m c cX7_sampleCount 1 s _ wsX7_sampleCount RX7 := ⟨hx, hb, hml, hown, hts⟩
  have hP : va_P D vwCl [(atb, .inr (6, [.ref tp, .ref tw, .ref tv, .ref tf, .ref aq, .int sa, .long lo])), (tp, .inl (y 1, 121, .inl pa)), (tw, .inl (y 1, 121, .inl we)), (tv, .inl (y 2, 121, .inr (.inl vo))), (tf, .inl (y 3, 121, .inl fm)), (aq, .inr (3, [.ref u0, .ref u1, .ref u2, .ref u3, .ref u4, .int qn])), (u0, .inl (y 1, 256, .inl qs)), (u1, .inl (y 2, 256, .inr (.inl ql))), (u2, .inl (y 1, 256, .inl qt)), (u3, .inl (y 1, 256, .inl qw)), (u4, .inl (y 2, 256, .inr (.inl qv)))] s.heap := hP
  have iX7 : ∀ w ∈ wsX70, w ∈ wsX7_sampleCount := by decide +kernel
  have hl := lv_entry ([.ref atb]) (n := 1) (Nat.le_of_ble_eq_true rfl)
  rw [lg_entry_eq]
  generalize (lg_sl ([.ref atb]) ++ List.replicate (1 - (lg_sl ([.ref atb])).length) Slot.unset).toArray = ls at hl ⊢
  have hl : lv_has ls 1 [(0, .ref atb)] := hl
  refine lv_aload_n hx hb dX7_sampleCount_0 rfl (lv_at hl 0 rfl) ?_
  refine va_get (D := D) (ci := 6) (v := .int sa) (C := RX7) (T := TX7) (N := 7) hx hb hts iX7 hown hK hP 0 rfl rfl 5 (by decide) (hts (.fieldLink RX7 33 "SampleTracker$Table" "samples" "I") (by decide +kernel)) (fun _ h9 => h9) rfl dX7_sampleCount_1 ?_
  exact W.iret hx hb hr (fun t ht hW => ⟨⟨(), rfl, by rw [ht]; exact hP, hD⟩, hS.F ht⟩) hS.2.2 dX7_sampleCount_4

def fX7_isFull (sa : Int32) : Option (Bool) := (if sa < (120 : Int32) then some false else some true)

set_option maxHeartbeats 4000000 in
set_option maxRecDepth 100000 in
theorem cX7_isFull_ok (l : Launch) (D : va_G) (y : Nat → ClassId) (atb : Nat) (tp : Nat) (tw : Nat) (tv : Nat) (tf : Nat) (aq : Nat) (u0 : Nat) (u1 : Nat) (u2 : Nat) (u3 : Nat) (u4 : Nat) (pa : Nat → Int32) (we : Nat → Int32) (vo : Nat → Int64) (fm : Nat → Int32) (sa : Int32) (lo : Int64) (qs : Nat → Int32) (ql : Nat → Int64) (qt : Nat → Int32) (qw : Nat → Int32) (qv : Nat → Int64) (qn : Int32) (res : Bool) (hf : fX7_isFull sa = some res) : CT l D y yX7_isFull wsX7_isFull ({ frames := 0, cells := 0, slots := 0, locals := 0 } : Room) [.ref atb] [(atb, .inr (6, [.ref tp, .ref tw, .ref tv, .ref tf, .ref aq, .int sa, .long lo])), (tp, .inl (y 1, 121, .inl pa)), (tw, .inl (y 1, 121, .inl we)), (tv, .inl (y 2, 121, .inr (.inl vo))), (tf, .inl (y 3, 121, .inl fm)), (aq, .inr (3, [.ref u0, .ref u1, .ref u2, .ref u3, .ref u4, .int qn])), (u0, .inl (y 1, 256, .inl qs)), (u1, .inl (y 2, 256, .inr (.inl ql))), (u2, .inl (y 1, 256, .inl qt)), (u3, .inl (y 1, 256, .inl qw)), (u4, .inl (y 2, 256, .inr (.inl qv)))] (some (.int (zb res))) [(atb, .inr (6, [.ref tp, .ref tw, .ref tv, .ref tf, .ref aq, .int sa, .long lo])), (tp, .inl (y 1, 121, .inl pa)), (tw, .inl (y 1, 121, .inl we)), (tv, .inl (y 2, 121, .inr (.inl vo))), (tf, .inl (y 3, 121, .inl fm)), (aq, .inr (3, [.ref u0, .ref u1, .ref u2, .ref u3, .ref u4, .int qn])), (u0, .inl (y 1, 256, .inl qs)), (u1, .inl (y 2, 256, .inr (.inl ql))), (u2, .inl (y 1, 256, .inl qt)), (u3, .inl (y 1, 256, .inl qw)), (u4, .inl (y 2, 256, .inr (.inl qv)))] := by
  intro sz
  refine Met.ofW (cc := cX7_isFull) (maxL := 1) (ret := (some .boolean)) (by decide) rfl ?_
  intro p e s m args below meth c s₁ B hml hv
  obtain ⟨rfl, hsz, hP, hK, hD0, hst, hno⟩ := hv
  have hx := B.exec
  have hb := B.bytes
  have hr := B.returns
  have hts := atoms_spec (ws := wsX7_isFull) B.pre
  have hown : s.vm.findClass RX7 = some m.cls := findClass_of_methodNamed B.named
  have hlocks := B.notSynchronized
  subst hsz
  have hD := hD0.self (sz := s.heap.size)
  generalize hAe : va_A [(atb, .inr (6, [.ref tp, .ref tw, .ref tv, .ref tf, .ref aq, .int sa, .long lo])), (tp, .inl (y 1, 121, .inl pa)), (tw, .inl (y 1, 121, .inl we)), (tv, .inl (y 2, 121, .inr (.inl vo))), (tf, .inl (y 3, 121, .inl fm)), (aq, .inr (3, [.ref u0, .ref u1, .ref u2, .ref u3, .ref u4, .int qn])), (u0, .inl (y 1, 256, .inl qs)), (u1, .inl (y 2, 256, .inr (.inl ql))), (u2, .inl (y 1, 256, .inl qt)), (u3, .inl (y 1, 256, .inl qw)), (u4, .inl (y 2, 256, .inr (.inl qv)))] s.heap.size = A at hD hst ⊢
  have hA : ∀ q : Nat, s.heap.size ≤ q → A q := fun q h => by rw [← hAe]; exact Or.inr h
  have hS : va_S A s.heap s.heap [] := va_S.rf
  have E : Ev D y A s := ⟨hK, hst, hno, hA⟩
  have hfix : CallFix p m c cX7_isFull 1 s _ wsX7_isFull RX7 := ⟨hx, hb, hml, hown, hts⟩
  have hP : va_P D vwCl [(atb, .inr (6, [.ref tp, .ref tw, .ref tv, .ref tf, .ref aq, .int sa, .long lo])), (tp, .inl (y 1, 121, .inl pa)), (tw, .inl (y 1, 121, .inl we)), (tv, .inl (y 2, 121, .inr (.inl vo))), (tf, .inl (y 3, 121, .inl fm)), (aq, .inr (3, [.ref u0, .ref u1, .ref u2, .ref u3, .ref u4, .int qn])), (u0, .inl (y 1, 256, .inl qs)), (u1, .inl (y 2, 256, .inr (.inl ql))), (u2, .inl (y 1, 256, .inl qt)), (u3, .inl (y 1, 256, .inl qw)), (u4, .inl (y 2, 256, .inr (.inl qv)))] s.heap := hP
  have iX7 : ∀ w ∈ wsX70, w ∈ wsX7_isFull := by decide +kernel
  have hl := lv_entry ([.ref atb]) (n := 1) (Nat.le_of_ble_eq_true rfl)
  rw [lg_entry_eq]
  generalize (lg_sl ([.ref atb]) ++ List.replicate (1 - (lg_sl ([.ref atb])).length) Slot.unset).toArray = ls at hl ⊢
  have hl : lv_has ls 1 [(0, .ref atb)] := hl
  unfold fX7_isFull at hf
  refine lv_aload_n hx hb dX7_isFull_0 rfl (lv_at hl 0 rfl) ?_
  refine va_get (D := D) (ci := 6) (v := .int sa) (C := RX7) (T := TX7) (N := 7) hx hb hts iX7 hown hK hP 0 rfl rfl 5 (by decide) (hts (.fieldLink RX7 33 "SampleTracker$Table" "samples" "I") (by decide +kernel)) (fun _ h9 => h9) rfl dX7_isFull_1 ?_
  refine lv_bipush (v := (120 : Int32)) hx hb dX7_isFull_4 (by decide) ?_
  refine lv_icmp_lt (tgt := 13) hx hb dX7_isFull_6 (by decide) (fun c_1 => ?_) (fun c_1 => ?_)
  · have hf := ifp hf c_1
    refine lv_iconst (v := (0 : Int32)) hx hb dX7_isFull_13 (by decide) ?_
    obtain rfl := Option.some.inj hf
    exact W.zret (ty := .boolean) hx hb hr rfl (fun t ht hW => ⟨⟨(), rfl, by rw [ht]; exact hP, hD⟩, hS.F ht⟩) hS.2.2 dX7_isFull_14
  · have hf := ifn hf c_1
    refine lv_iconst (v := (1 : Int32)) hx hb dX7_isFull_9 (by decide) ?_
    refine lv_goto (tgt := 14) hx hb dX7_isFull_10 (by decide) ?_
    obtain rfl := Option.some.inj hf
    exact W.zret (ty := .boolean) hx hb hr rfl (fun t ht hW => ⟨⟨(), rfl, by rw [ht]; exact hP, hD⟩, hS.F ht⟩) hS.2.2 dX7_isFull_14

def fX7_isSample (sa : Int32) (p1 : Int32) : Option (Bool) := (if p1 < (1 : Int32) then some false else (if sa < p1 then some false else (if (120 : Int32) < sa then some false else some true)))

set_option maxHeartbeats 4000000 in
set_option maxRecDepth 100000 in
theorem cX7_isSample_ok (l : Launch) (D : va_G) (y : Nat → ClassId) (atb : Nat) (tp : Nat) (tw : Nat) (tv : Nat) (tf : Nat) (aq : Nat) (u0 : Nat) (u1 : Nat) (u2 : Nat) (u3 : Nat) (u4 : Nat) (pa : Nat → Int32) (we : Nat → Int32) (vo : Nat → Int64) (fm : Nat → Int32) (sa : Int32) (lo : Int64) (qs : Nat → Int32) (ql : Nat → Int64) (qt : Nat → Int32) (qw : Nat → Int32) (qv : Nat → Int64) (qn : Int32) (p1 : Int32) (res : Bool) (hf : fX7_isSample sa p1 = some res) : CT l D y yX7_isSample wsX7_isSample ({ frames := 0, cells := 0, slots := 0, locals := 0 } : Room) [.ref atb, .int p1] [(atb, .inr (6, [.ref tp, .ref tw, .ref tv, .ref tf, .ref aq, .int sa, .long lo])), (tp, .inl (y 1, 121, .inl pa)), (tw, .inl (y 1, 121, .inl we)), (tv, .inl (y 2, 121, .inr (.inl vo))), (tf, .inl (y 3, 121, .inl fm)), (aq, .inr (3, [.ref u0, .ref u1, .ref u2, .ref u3, .ref u4, .int qn])), (u0, .inl (y 1, 256, .inl qs)), (u1, .inl (y 2, 256, .inr (.inl ql))), (u2, .inl (y 1, 256, .inl qt)), (u3, .inl (y 1, 256, .inl qw)), (u4, .inl (y 2, 256, .inr (.inl qv)))] (some (.int (zb res))) [(atb, .inr (6, [.ref tp, .ref tw, .ref tv, .ref tf, .ref aq, .int sa, .long lo])), (tp, .inl (y 1, 121, .inl pa)), (tw, .inl (y 1, 121, .inl we)), (tv, .inl (y 2, 121, .inr (.inl vo))), (tf, .inl (y 3, 121, .inl fm)), (aq, .inr (3, [.ref u0, .ref u1, .ref u2, .ref u3, .ref u4, .int qn])), (u0, .inl (y 1, 256, .inl qs)), (u1, .inl (y 2, 256, .inr (.inl ql))), (u2, .inl (y 1, 256, .inl qt)), (u3, .inl (y 1, 256, .inl qw)), (u4, .inl (y 2, 256, .inr (.inl qv)))] := by
  intro sz
  refine Met.ofW (cc := cX7_isSample) (maxL := 2) (ret := (some .boolean)) (by decide) rfl ?_
  intro p e s m args below meth c s₁ B hml hv
  obtain ⟨rfl, hsz, hP, hK, hD0, hst, hno⟩ := hv
  have hx := B.exec
  have hb := B.bytes
  have hr := B.returns
  have hts := atoms_spec (ws := wsX7_isSample) B.pre
  have hown : s.vm.findClass RX7 = some m.cls := findClass_of_methodNamed B.named
  have hlocks := B.notSynchronized
  subst hsz
  have hD := hD0.self (sz := s.heap.size)
  generalize hAe : va_A [(atb, .inr (6, [.ref tp, .ref tw, .ref tv, .ref tf, .ref aq, .int sa, .long lo])), (tp, .inl (y 1, 121, .inl pa)), (tw, .inl (y 1, 121, .inl we)), (tv, .inl (y 2, 121, .inr (.inl vo))), (tf, .inl (y 3, 121, .inl fm)), (aq, .inr (3, [.ref u0, .ref u1, .ref u2, .ref u3, .ref u4, .int qn])), (u0, .inl (y 1, 256, .inl qs)), (u1, .inl (y 2, 256, .inr (.inl ql))), (u2, .inl (y 1, 256, .inl qt)), (u3, .inl (y 1, 256, .inl qw)), (u4, .inl (y 2, 256, .inr (.inl qv)))] s.heap.size = A at hD hst ⊢
  have hA : ∀ q : Nat, s.heap.size ≤ q → A q := fun q h => by rw [← hAe]; exact Or.inr h
  have hS : va_S A s.heap s.heap [] := va_S.rf
  have E : Ev D y A s := ⟨hK, hst, hno, hA⟩
  have hfix : CallFix p m c cX7_isSample 2 s _ wsX7_isSample RX7 := ⟨hx, hb, hml, hown, hts⟩
  have hP : va_P D vwCl [(atb, .inr (6, [.ref tp, .ref tw, .ref tv, .ref tf, .ref aq, .int sa, .long lo])), (tp, .inl (y 1, 121, .inl pa)), (tw, .inl (y 1, 121, .inl we)), (tv, .inl (y 2, 121, .inr (.inl vo))), (tf, .inl (y 3, 121, .inl fm)), (aq, .inr (3, [.ref u0, .ref u1, .ref u2, .ref u3, .ref u4, .int qn])), (u0, .inl (y 1, 256, .inl qs)), (u1, .inl (y 2, 256, .inr (.inl ql))), (u2, .inl (y 1, 256, .inl qt)), (u3, .inl (y 1, 256, .inl qw)), (u4, .inl (y 2, 256, .inr (.inl qv)))] s.heap := hP
  have iX7 : ∀ w ∈ wsX70, w ∈ wsX7_isSample := by decide +kernel
  have hl := lv_entry ([.ref atb, .int p1]) (n := 2) (Nat.le_of_ble_eq_true rfl)
  rw [lg_entry_eq]
  generalize (lg_sl ([.ref atb, .int p1]) ++ List.replicate (2 - (lg_sl ([.ref atb, .int p1])).length) Slot.unset).toArray = ls at hl ⊢
  have hl : lv_has ls 2 [(0, .ref atb), (1, .int p1)] := hl
  unfold fX7_isSample at hf
  refine lv_iload_n hx hb dX7_isSample_0 rfl (lv_at hl 1 rfl) ?_
  refine lv_iconst (v := (1 : Int32)) hx hb dX7_isSample_1 (by decide) ?_
  refine lv_icmp_lt (tgt := 26) hx hb dX7_isSample_2 (by decide) (fun c_1 => ?_) (fun c_1 => ?_)
  · have hf := ifp hf c_1
    refine lv_iconst (v := (0 : Int32)) hx hb dX7_isSample_26 (by decide) ?_
    obtain rfl := Option.some.inj hf
    exact W.zret (ty := .boolean) hx hb hr rfl (fun t ht hW => ⟨⟨(), rfl, by rw [ht]; exact hP, hD⟩, hS.F ht⟩) hS.2.2 dX7_isSample_27
  · have hf := ifn hf c_1
    refine lv_iload_n hx hb dX7_isSample_5 rfl (lv_at hl 1 rfl) ?_
    refine lv_aload_n hx hb dX7_isSample_6 rfl (lv_at hl 0 rfl) ?_
    refine va_get (D := D) (ci := 6) (v := .int sa) (C := RX7) (T := TX7) (N := 7) hx hb hts iX7 hown hK hP 0 rfl rfl 5 (by decide) (hts (.fieldLink RX7 33 "SampleTracker$Table" "samples" "I") (by decide +kernel)) (fun _ h9 => h9) rfl dX7_isSample_7 ?_
    refine lv_icmp_gt (tgt := 26) hx hb dX7_isSample_10 (by decide) (fun c_2 => ?_) (fun c_2 => ?_)
    · have hf := ifp hf c_2
      refine lv_iconst (v := (0 : Int32)) hx hb dX7_isSample_26 (by decide) ?_
      obtain rfl := Option.some.inj hf
      exact W.zret (ty := .boolean) hx hb hr rfl (fun t ht hW => ⟨⟨(), rfl, by rw [ht]; exact hP, hD⟩, hS.F ht⟩) hS.2.2 dX7_isSample_27
    · have hf := ifn hf c_2
      refine lv_aload_n hx hb dX7_isSample_13 rfl (lv_at hl 0 rfl) ?_
      refine va_get (D := D) (ci := 6) (v := .int sa) (C := RX7) (T := TX7) (N := 7) hx hb hts iX7 hown hK hP 0 rfl rfl 5 (by decide) (hts (.fieldLink RX7 33 "SampleTracker$Table" "samples" "I") (by decide +kernel)) (fun _ h9 => h9) rfl dX7_isSample_14 ?_
      refine lv_bipush (v := (120 : Int32)) hx hb dX7_isSample_17 (by decide) ?_
      refine lv_icmp_gt (tgt := 26) hx hb dX7_isSample_19 (by decide) (fun c_3 => ?_) (fun c_3 => ?_)
      · have hf := ifp hf c_3
        refine lv_iconst (v := (0 : Int32)) hx hb dX7_isSample_26 (by decide) ?_
        obtain rfl := Option.some.inj hf
        exact W.zret (ty := .boolean) hx hb hr rfl (fun t ht hW => ⟨⟨(), rfl, by rw [ht]; exact hP, hD⟩, hS.F ht⟩) hS.2.2 dX7_isSample_27
      · have hf := ifn hf c_3
        refine lv_iconst (v := (1 : Int32)) hx hb dX7_isSample_22 (by decide) ?_
        refine lv_goto (tgt := 27) hx hb dX7_isSample_23 (by decide) ?_
        obtain rfl := Option.some.inj hf
        exact W.zret (ty := .boolean) hx hb hr rfl (fun t ht hW => ⟨⟨(), rfl, by rw [ht]; exact hP, hD⟩, hS.F ht⟩) hS.2.2 dX7_isSample_27

def fX7_wellOf (we : Nat → Int32) (sa : Int32) (p1 : Int32) : Option (Int32) := ((fX7_isSample sa p1).bind fun r_1 => (if (zb r_1) = 0 then some (-1 : Int32) else (if (ib p1 121) = true then some (we p1.toNatClampNeg) else none)))

set_option maxHeartbeats 4000000 in
set_option maxRecDepth 100000 in
theorem cX7_wellOf_ok (l : Launch) (D : va_G) (y : Nat → ClassId) (atb : Nat) (tp : Nat) (tw : Nat) (tv : Nat) (tf : Nat) (aq : Nat) (u0 : Nat) (u1 : Nat) (u2 : Nat) (u3 : Nat) (u4 : Nat) (pa : Nat → Int32) (we : Nat → Int32) (vo : Nat → Int64) (fm : Nat → Int32) (sa : Int32) (lo : Int64) (qs : Nat → Int32) (ql : Nat → Int64) (qt : Nat → Int32) (qw : Nat → Int32) (qv : Nat → Int64) (qn : Int32) (p1 : Int32) (res : Int32) (hf : fX7_wellOf we sa p1 = some res) : CT l D y yX7_wellOf wsX7_wellOf ({ frames := 1, cells := 0, slots := 0, locals := 21 } : Room) [.ref atb, .int p1] [(atb, .inr (6, [.ref tp, .ref tw, .ref tv, .ref tf, .ref aq, .int sa, .long lo])), (tp, .inl (y 1, 121, .inl pa)), (tw, .inl (y 1, 121, .inl we)), (tv, .inl (y 2, 121, .inr (.inl vo))), (tf, .inl (y 3, 121, .inl fm)), (aq, .inr (3, [.ref u0, .ref u1, .ref u2, .ref u3, .ref u4, .int qn])), (u0, .inl (y 1, 256, .inl qs)), (u1, .inl (y 2, 256, .inr (.inl ql))), (u2, .inl (y 1, 256, .inl qt)), (u3, .inl (y 1, 256, .inl qw)), (u4, .inl (y 2, 256, .inr (.inl qv)))] (some (.int res)) [(atb, .inr (6, [.ref tp, .ref tw, .ref tv, .ref tf, .ref aq, .int sa, .long lo])), (tp, .inl (y 1, 121, .inl pa)), (tw, .inl (y 1, 121, .inl we)), (tv, .inl (y 2, 121, .inr (.inl vo))), (tf, .inl (y 3, 121, .inl fm)), (aq, .inr (3, [.ref u0, .ref u1, .ref u2, .ref u3, .ref u4, .int qn])), (u0, .inl (y 1, 256, .inl qs)), (u1, .inl (y 2, 256, .inr (.inl ql))), (u2, .inl (y 1, 256, .inl qt)), (u3, .inl (y 1, 256, .inl qw)), (u4, .inl (y 2, 256, .inr (.inl qv)))] := by
  intro sz
  refine Met.ofW (cc := cX7_wellOf) (maxL := 2) (ret := (some .int)) (by decide) rfl ?_
  intro p e s m args below meth c s₁ B hml hv
  obtain ⟨rfl, hsz, hP, hK, hD0, hst, hno⟩ := hv
  have hx := B.exec
  have hb := B.bytes
  have hr := B.returns
  have hts := atoms_spec (ws := wsX7_wellOf) B.pre
  have hown : s.vm.findClass RX7 = some m.cls := findClass_of_methodNamed B.named
  have hlocks := B.notSynchronized
  subst hsz
  have hD := hD0.self (sz := s.heap.size)
  generalize hAe : va_A [(atb, .inr (6, [.ref tp, .ref tw, .ref tv, .ref tf, .ref aq, .int sa, .long lo])), (tp, .inl (y 1, 121, .inl pa)), (tw, .inl (y 1, 121, .inl we)), (tv, .inl (y 2, 121, .inr (.inl vo))), (tf, .inl (y 3, 121, .inl fm)), (aq, .inr (3, [.ref u0, .ref u1, .ref u2, .ref u3, .ref u4, .int qn])), (u0, .inl (y 1, 256, .inl qs)), (u1, .inl (y 2, 256, .inr (.inl ql))), (u2, .inl (y 1, 256, .inl qt)), (u3, .inl (y 1, 256, .inl qw)), (u4, .inl (y 2, 256, .inr (.inl qv)))] s.heap.size = A at hD hst ⊢
  have hA : ∀ q : Nat, s.heap.size ≤ q → A q := fun q h => by rw [← hAe]; exact Or.inr h
  have hS : va_S A s.heap s.heap [] := va_S.rf
  have E : Ev D y A s := ⟨hK, hst, hno, hA⟩
  have hfix : CallFix p m c cX7_wellOf 2 s _ wsX7_wellOf RX7 := ⟨hx, hb, hml, hown, hts⟩
  have hP : va_P D vwCl [(atb, .inr (6, [.ref tp, .ref tw, .ref tv, .ref tf, .ref aq, .int sa, .long lo])), (tp, .inl (y 1, 121, .inl pa)), (tw, .inl (y 1, 121, .inl we)), (tv, .inl (y 2, 121, .inr (.inl vo))), (tf, .inl (y 3, 121, .inl fm)), (aq, .inr (3, [.ref u0, .ref u1, .ref u2, .ref u3, .ref u4, .int qn])), (u0, .inl (y 1, 256, .inl qs)), (u1, .inl (y 2, 256, .inr (.inl ql))), (u2, .inl (y 1, 256, .inl qt)), (u3, .inl (y 1, 256, .inl qw)), (u4, .inl (y 2, 256, .inr (.inl qv)))] s.heap := hP
  have iX7 : ∀ w ∈ wsX70, w ∈ wsX7_wellOf := by decide +kernel
  have hl := lv_entry ([.ref atb, .int p1]) (n := 2) (Nat.le_of_ble_eq_true rfl)
  rw [lg_entry_eq]
  generalize (lg_sl ([.ref atb, .int p1]) ++ List.replicate (2 - (lg_sl ([.ref atb, .int p1])).length) Slot.unset).toArray = ls at hl ⊢
  have hl : lv_has ls 2 [(0, .ref atb), (1, .int p1)] := hl
  unfold fX7_wellOf at hf
  refine lv_aload_n hx hb dX7_wellOf_0 rfl (lv_at hl 0 rfl) ?_
  refine lv_iload_n hx hb dX7_wellOf_1 rfl (lv_at hl 1 rfl) ?_
  obtain ⟨r_1, hc_2, hf⟩ := obd hf
  refine ct_V (As := [.int p1]) (rest := []) (wr := []) (wn := [(atb, .inr (6, [.ref tp, .ref tw, .ref tv, .ref tf, .ref aq, .int sa, .long lo])), (tp, .inl (y 1, 121, .inl pa)), (tw, .inl (y 1, 121, .inl we)), (tv, .inl (y 2, 121, .inr (.inl vo))), (tf, .inl (y 3, 121, .inl fm)), (aq, .inr (3, [.ref u0, .ref u1, .ref u2, .ref u3, .ref u4, .int qn])), (u0, .inl (y 1, 256, .inl qs)), (u1, .inl (y 2, 256, .inr (.inl ql))), (u2, .inl (y 1, 256, .inl qt)), (u3, .inl (y 1, 256, .inl qw)), (u4, .inl (y 2, 256, .inr (.inl qv)))]) hfix (cX7_isSample_ok l D y atb tp tw tv tf aq u0 u1 u2 u3 u4 pa we vo fm sa lo qs ql qt qw qv qn p1 _ hc_2) (cwV 1 hts gX7_wellOf_X7_isSample rfl rfl rfl (by decide +kernel) ⟨Nat.le_of_ble_eq_true rfl, Nat.le_of_ble_eq_true rfl⟩) E hP hD hS [0, 1, 2, 3, 4, 5, 6, 7, 8, 9, 10] [] [0, 1, 2, 3, 4, 5, 6, 7, 8, 9, 10] rfl rfl rfl rfl (by decide) rfl rfl 0 6 rfl rfl rfl hl.1 rfl (Nat.le_of_ble_eq_true rfl) dX7_wellOf_2 ⟨Nat.zero_le _, Nat.zero_le _⟩ (fun H locs hP hD hS => ?_)
  refine W.eq (g2 := F0 m 5 ls [.int (zb r_1)]) rfl ?_
  refine lv_if_eq (tgt := 17) hx hb dX7_wellOf_5 (by decide) (fun c_3 => ?_) (fun c_3 => ?_)
  · have hf := ifp hf c_3
    refine lv_iconst (v := (-1 : Int32)) hx hb dX7_wellOf_17 (by decide) ?_
    obtain rfl := Option.some.inj hf
    exact W.iret hx hb hr (fun t ht hW => ⟨⟨(), rfl, by rw [ht]; exact hP, hD⟩, hS.F ht⟩) hS.2.2 dX7_wellOf_18
  · have hf := ifn hf c_3
    refine lv_aload_n hx hb dX7_wellOf_8 rfl (lv_at hl 0 rfl) ?_
    refine va_get (D := D) (ci := 6) (v := .ref tw) (C := RX7) (T := TX7) (N := 7) hx hb hts iX7 hown hK hP 0 rfl rfl 1 (by decide) (hts (.fieldLink RX7 15 "SampleTracker$Table" "wells" "[I") (by decide +kernel)) (fun _ h9 => h9) rfl dX7_wellOf_9 ?_
    refine lv_iload_n hx hb dX7_wellOf_12 rfl (lv_at hl 1 rfl) ?_
    obtain ⟨h_4, hf⟩ := ibk hf
    refine va_iald hx hb hK hP 2 1 rfl rfl (ib_in h_4) dX7_wellOf_13 ?_
    refine lv_goto (tgt := 18) hx hb dX7_wellOf_14 (by decide) ?_
    obtain rfl := Option.some.inj hf
    exact W.iret hx hb hr (fun t ht hW => ⟨⟨(), rfl, by rw [ht]; exact hP, hD⟩, hS.F ht⟩) hS.2.2 dX7_wellOf_18

def fX7_parentOf (pa : Nat → Int32) (sa : Int32) (p1 : Int32) : Option (Int32) := ((fX7_isSample sa p1).bind fun r_1 => (if (zb r_1) = 0 then some (0 : Int32) else (if (ib p1 121) = true then some (pa p1.toNatClampNeg) else none)))

set_option maxHeartbeats 4000000 in
set_option maxRecDepth 100000 in
theorem cX7_parentOf_ok (l : Launch) (D : va_G) (y : Nat → ClassId) (atb : Nat) (tp : Nat) (tw : Nat) (tv : Nat) (tf : Nat) (aq : Nat) (u0 : Nat) (u1 : Nat) (u2 : Nat) (u3 : Nat) (u4 : Nat) (pa : Nat → Int32) (we : Nat → Int32) (vo : Nat → Int64) (fm : Nat → Int32) (sa : Int32) (lo : Int64) (qs : Nat → Int32) (ql : Nat → Int64) (qt : Nat → Int32) (qw : Nat → Int32) (qv : Nat → Int64) (qn : Int32) (p1 : Int32) (res : Int32) (hf : fX7_parentOf pa sa p1 = some res) : CT l D y yX7_parentOf wsX7_parentOf ({ frames := 1, cells := 0, slots := 0, locals := 21 } : Room) [.ref atb, .int p1] [(atb, .inr (6, [.ref tp, .ref tw, .ref tv, .ref tf, .ref aq, .int sa, .long lo])), (tp, .inl (y 1, 121, .inl pa)), (tw, .inl (y 1, 121, .inl we)), (tv, .inl (y 2, 121, .inr (.inl vo))), (tf, .inl (y 3, 121, .inl fm)), (aq, .inr (3, [.ref u0, .ref u1, .ref u2, .ref u3, .ref u4, .int qn])), (u0, .inl (y 1, 256, .inl qs)), (u1, .inl (y 2, 256, .inr (.inl ql))), (u2, .inl (y 1, 256, .inl qt)), (u3, .inl (y 1, 256, .inl qw)), (u4, .inl (y 2, 256, .inr (.inl qv)))] (some (.int res)) [(atb, .inr (6, [.ref tp, .ref tw, .ref tv, .ref tf, .ref aq, .int sa, .long lo])), (tp, .inl (y 1, 121, .inl pa)), (tw, .inl (y 1, 121, .inl we)), (tv, .inl (y 2, 121, .inr (.inl vo))), (tf, .inl (y 3, 121, .inl fm)), (aq, .inr (3, [.ref u0, .ref u1, .ref u2, .ref u3, .ref u4, .int qn])), (u0, .inl (y 1, 256, .inl qs)), (u1, .inl (y 2, 256, .inr (.inl ql))), (u2, .inl (y 1, 256, .inl qt)), (u3, .inl (y 1, 256, .inl qw)), (u4, .inl (y 2, 256, .inr (.inl qv)))] := by
  intro sz
  refine Met.ofW (cc := cX7_parentOf) (maxL := 2) (ret := (some .int)) (by decide) rfl ?_
  intro p e s m args below meth c s₁ B hml hv
  obtain ⟨rfl, hsz, hP, hK, hD0, hst, hno⟩ := hv
  have hx := B.exec
  have hb := B.bytes
  have hr := B.returns
  have hts := atoms_spec (ws := wsX7_parentOf) B.pre
  have hown : s.vm.findClass RX7 = some m.cls := findClass_of_methodNamed B.named
  have hlocks := B.notSynchronized
  subst hsz
  have hD := hD0.self (sz := s.heap.size)
  generalize hAe : va_A [(atb, .inr (6, [.ref tp, .ref tw, .ref tv, .ref tf, .ref aq, .int sa, .long lo])), (tp, .inl (y 1, 121, .inl pa)), (tw, .inl (y 1, 121, .inl we)), (tv, .inl (y 2, 121, .inr (.inl vo))), (tf, .inl (y 3, 121, .inl fm)), (aq, .inr (3, [.ref u0, .ref u1, .ref u2, .ref u3, .ref u4, .int qn])), (u0, .inl (y 1, 256, .inl qs)), (u1, .inl (y 2, 256, .inr (.inl ql))), (u2, .inl (y 1, 256, .inl qt)), (u3, .inl (y 1, 256, .inl qw)), (u4, .inl (y 2, 256, .inr (.inl qv)))] s.heap.size = A at hD hst ⊢
  have hA : ∀ q : Nat, s.heap.size ≤ q → A q := fun q h => by rw [← hAe]; exact Or.inr h
  have hS : va_S A s.heap s.heap [] := va_S.rf
  have E : Ev D y A s := ⟨hK, hst, hno, hA⟩
  have hfix : CallFix p m c cX7_parentOf 2 s _ wsX7_parentOf RX7 := ⟨hx, hb, hml, hown, hts⟩
  have hP : va_P D vwCl [(atb, .inr (6, [.ref tp, .ref tw, .ref tv, .ref tf, .ref aq, .int sa, .long lo])), (tp, .inl (y 1, 121, .inl pa)), (tw, .inl (y 1, 121, .inl we)), (tv, .inl (y 2, 121, .inr (.inl vo))), (tf, .inl (y 3, 121, .inl fm)), (aq, .inr (3, [.ref u0, .ref u1, .ref u2, .ref u3, .ref u4, .int qn])), (u0, .inl (y 1, 256, .inl qs)), (u1, .inl (y 2, 256, .inr (.inl ql))), (u2, .inl (y 1, 256, .inl qt)), (u3, .inl (y 1, 256, .inl qw)), (u4, .inl (y 2, 256, .inr (.inl qv)))] s.heap := hP
  have iX7 : ∀ w ∈ wsX70, w ∈ wsX7_parentOf := by decide +kernel
  have hl := lv_entry ([.ref atb, .int p1]) (n := 2) (Nat.le_of_ble_eq_true rfl)
  rw [lg_entry_eq]
  generalize (lg_sl ([.ref atb, .int p1]) ++ List.replicate (2 - (lg_sl ([.ref atb, .int p1])).length) Slot.unset).toArray = ls at hl ⊢
  have hl : lv_has ls 2 [(0, .ref atb), (1, .int p1)] := hl
  unfold fX7_parentOf at hf
  refine lv_aload_n hx hb dX7_parentOf_0 rfl (lv_at hl 0 rfl) ?_
  refine lv_iload_n hx hb dX7_parentOf_1 rfl (lv_at hl 1 rfl) ?_
  obtain ⟨r_1, hc_2, hf⟩ := obd hf
  refine ct_V (As := [.int p1]) (rest := []) (wr := []) (wn := [(atb, .inr (6, [.ref tp, .ref tw, .ref tv, .ref tf, .ref aq, .int sa, .long lo])), (tp, .inl (y 1, 121, .inl pa)), (tw, .inl (y 1, 121, .inl we)), (tv, .inl (y 2, 121, .inr (.inl vo))), (tf, .inl (y 3, 121, .inl fm)), (aq, .inr (3, [.ref u0, .ref u1, .ref u2, .ref u3, .ref u4, .int qn])), (u0, .inl (y 1, 256, .inl qs)), (u1, .inl (y 2, 256, .inr (.inl ql))), (u2, .inl (y 1, 256, .inl qt)), (u3, .inl (y 1, 256, .inl qw)), (u4, .inl (y 2, 256, .inr (.inl qv)))]) hfix (cX7_isSample_ok l D y atb tp tw tv tf aq u0 u1 u2 u3 u4 pa we vo fm sa lo qs ql qt qw qv qn p1 _ hc_2) (cwV 1 hts gX7_parentOf_X7_isSample rfl rfl rfl (by decide +kernel) ⟨Nat.le_of_ble_eq_true rfl, Nat.le_of_ble_eq_true rfl⟩) E hP hD hS [0, 1, 2, 3, 4, 5, 6, 7, 8, 9, 10] [] [0, 1, 2, 3, 4, 5, 6, 7, 8, 9, 10] rfl rfl rfl rfl (by decide) rfl rfl 0 6 rfl rfl rfl hl.1 rfl (Nat.le_of_ble_eq_true rfl) dX7_parentOf_2 ⟨Nat.zero_le _, Nat.zero_le _⟩ (fun H locs hP hD hS => ?_)
  refine W.eq (g2 := F0 m 5 ls [.int (zb r_1)]) rfl ?_
  refine lv_if_eq (tgt := 17) hx hb dX7_parentOf_5 (by decide) (fun c_3 => ?_) (fun c_3 => ?_)
  · have hf := ifp hf c_3
    refine lv_iconst (v := (0 : Int32)) hx hb dX7_parentOf_17 (by decide) ?_
    obtain rfl := Option.some.inj hf
    exact W.iret hx hb hr (fun t ht hW => ⟨⟨(), rfl, by rw [ht]; exact hP, hD⟩, hS.F ht⟩) hS.2.2 dX7_parentOf_18
  · have hf := ifn hf c_3
    refine lv_aload_n hx hb dX7_parentOf_8 rfl (lv_at hl 0 rfl) ?_
    refine va_get (D := D) (ci := 6) (v := .ref tp) (C := RX7) (T := TX7) (N := 7) hx hb hts iX7 hown hK hP 0 rfl rfl 0 (by decide) (hts (.fieldLink RX7 9 "SampleTracker$Table" "parents" "[I") (by decide +kernel)) (fun _ h9 => h9) rfl dX7_parentOf_9 ?_
    refine lv_iload_n hx hb dX7_parentOf_12 rfl (lv_at hl 1 rfl) ?_
    obtain ⟨h_4, hf⟩ := ibk hf
    refine va_iald hx hb hK hP 1 1 rfl rfl (ib_in h_4) dX7_parentOf_13 ?_
    refine lv_goto (tgt := 18) hx hb dX7_parentOf_14 (by decide) ?_
    obtain rfl := Option.some.inj hf
    exact W.iret hx hb hr (fun t ht hW => ⟨⟨(), rfl, by rw [ht]; exact hP, hD⟩, hS.F ht⟩) hS.2.2 dX7_parentOf_18

def fX7_volumeOf (vo : Nat → Int64) (sa : Int32) (p1 : Int32) : Option (Int64) := ((fX7_isSample sa p1).bind fun r_1 => (if (zb r_1) = 0 then some (-1 : Int64) else (if (ib p1 121) = true then some (vo p1.toNatClampNeg) else none)))

set_option maxHeartbeats 4000000 in
set_option maxRecDepth 100000 in
theorem cX7_volumeOf_ok (l : Launch) (D : va_G) (y : Nat → ClassId) (atb : Nat) (tp : Nat) (tw : Nat) (tv : Nat) (tf : Nat) (aq : Nat) (u0 : Nat) (u1 : Nat) (u2 : Nat) (u3 : Nat) (u4 : Nat) (pa : Nat → Int32) (we : Nat → Int32) (vo : Nat → Int64) (fm : Nat → Int32) (sa : Int32) (lo : Int64) (qs : Nat → Int32) (ql : Nat → Int64) (qt : Nat → Int32) (qw : Nat → Int32) (qv : Nat → Int64) (qn : Int32) (p1 : Int32) (res : Int64) (hf : fX7_volumeOf vo sa p1 = some res) : CT l D y yX7_volumeOf wsX7_volumeOf ({ frames := 1, cells := 0, slots := 0, locals := 21 } : Room) [.ref atb, .int p1] [(atb, .inr (6, [.ref tp, .ref tw, .ref tv, .ref tf, .ref aq, .int sa, .long lo])), (tp, .inl (y 1, 121, .inl pa)), (tw, .inl (y 1, 121, .inl we)), (tv, .inl (y 2, 121, .inr (.inl vo))), (tf, .inl (y 3, 121, .inl fm)), (aq, .inr (3, [.ref u0, .ref u1, .ref u2, .ref u3, .ref u4, .int qn])), (u0, .inl (y 1, 256, .inl qs)), (u1, .inl (y 2, 256, .inr (.inl ql))), (u2, .inl (y 1, 256, .inl qt)), (u3, .inl (y 1, 256, .inl qw)), (u4, .inl (y 2, 256, .inr (.inl qv)))] (some (.long res)) [(atb, .inr (6, [.ref tp, .ref tw, .ref tv, .ref tf, .ref aq, .int sa, .long lo])), (tp, .inl (y 1, 121, .inl pa)), (tw, .inl (y 1, 121, .inl we)), (tv, .inl (y 2, 121, .inr (.inl vo))), (tf, .inl (y 3, 121, .inl fm)), (aq, .inr (3, [.ref u0, .ref u1, .ref u2, .ref u3, .ref u4, .int qn])), (u0, .inl (y 1, 256, .inl qs)), (u1, .inl (y 2, 256, .inr (.inl ql))), (u2, .inl (y 1, 256, .inl qt)), (u3, .inl (y 1, 256, .inl qw)), (u4, .inl (y 2, 256, .inr (.inl qv)))] := by
  intro sz
  refine Met.ofW (cc := cX7_volumeOf) (maxL := 2) (ret := (some .long)) (by decide) rfl ?_
  intro p e s m args below meth c s₁ B hml hv
  obtain ⟨rfl, hsz, hP, hK, hD0, hst, hno⟩ := hv
  have hx := B.exec
  have hb := B.bytes
  have hr := B.returns
  have hts := atoms_spec (ws := wsX7_volumeOf) B.pre
  have hown : s.vm.findClass RX7 = some m.cls := findClass_of_methodNamed B.named
  have hlocks := B.notSynchronized
  subst hsz
  have hD := hD0.self (sz := s.heap.size)
  generalize hAe : va_A [(atb, .inr (6, [.ref tp, .ref tw, .ref tv, .ref tf, .ref aq, .int sa, .long lo])), (tp, .inl (y 1, 121, .inl pa)), (tw, .inl (y 1, 121, .inl we)), (tv, .inl (y 2, 121, .inr (.inl vo))), (tf, .inl (y 3, 121, .inl fm)), (aq, .inr (3, [.ref u0, .ref u1, .ref u2, .ref u3, .ref u4, .int qn])), (u0, .inl (y 1, 256, .inl qs)), (u1, .inl (y 2, 256, .inr (.inl ql))), (u2, .inl (y 1, 256, .inl qt)), (u3, .inl (y 1, 256, .inl qw)), (u4, .inl (y 2, 256, .inr (.inl qv)))] s.heap.size = A at hD hst ⊢
  have hA : ∀ q : Nat, s.heap.size ≤ q → A q := fun q h => by rw [← hAe]; exact Or.inr h
  have hS : va_S A s.heap s.heap [] := va_S.rf
  have E : Ev D y A s := ⟨hK, hst, hno, hA⟩
  have hfix : CallFix p m c cX7_volumeOf 2 s _ wsX7_volumeOf RX7 := ⟨hx, hb, hml, hown, hts⟩
  have hP : va_P D vwCl [(atb, .inr (6, [.ref tp, .ref tw, .ref tv, .ref tf, .ref aq, .int sa, .long lo])), (tp, .inl (y 1, 121, .inl pa)), (tw, .inl (y 1, 121, .inl we)), (tv, .inl (y 2, 121, .inr (.inl vo))), (tf, .inl (y 3, 121, .inl fm)), (aq, .inr (3, [.ref u0, .ref u1, .ref u2, .ref u3, .ref u4, .int qn])), (u0, .inl (y 1, 256, .inl qs)), (u1, .inl (y 2, 256, .inr (.inl ql))), (u2, .inl (y 1, 256, .inl qt)), (u3, .inl (y 1, 256, .inl qw)), (u4, .inl (y 2, 256, .inr (.inl qv)))] s.heap := hP
  have iX7 : ∀ w ∈ wsX70, w ∈ wsX7_volumeOf := by decide +kernel
  have hl := lv_entry ([.ref atb, .int p1]) (n := 2) (Nat.le_of_ble_eq_true rfl)
  rw [lg_entry_eq]
  generalize (lg_sl ([.ref atb, .int p1]) ++ List.replicate (2 - (lg_sl ([.ref atb, .int p1])).length) Slot.unset).toArray = ls at hl ⊢
  have hl : lv_has ls 2 [(0, .ref atb), (1, .int p1)] := hl
  unfold fX7_volumeOf at hf
  refine lv_aload_n hx hb dX7_volumeOf_0 rfl (lv_at hl 0 rfl) ?_
  refine lv_iload_n hx hb dX7_volumeOf_1 rfl (lv_at hl 1 rfl) ?_
  obtain ⟨r_1, hc_2, hf⟩ := obd hf
  refine ct_V (As := [.int p1]) (rest := []) (wr := []) (wn := [(atb, .inr (6, [.ref tp, .ref tw, .ref tv, .ref tf, .ref aq, .int sa, .long lo])), (tp, .inl (y 1, 121, .inl pa)), (tw, .inl (y 1, 121, .inl we)), (tv, .inl (y 2, 121, .inr (.inl vo))), (tf, .inl (y 3, 121, .inl fm)), (aq, .inr (3, [.ref u0, .ref u1, .ref u2, .ref u3, .ref u4, .int qn])), (u0, .inl (y 1, 256, .inl qs)), (u1, .inl (y 2, 256, .inr (.inl ql))), (u2, .inl (y 1, 256, .inl qt)), (u3, .inl (y 1, 256, .inl qw)), (u4, .inl (y 2, 256, .inr (.inl qv)))]) hfix (cX7_isSample_ok l D y atb tp tw tv tf aq u0 u1 u2 u3 u4 pa we vo fm sa lo qs ql qt qw qv qn p1 _ hc_2) (cwV 1 hts gX7_volumeOf_X7_isSample rfl rfl rfl (by decide +kernel) ⟨Nat.le_of_ble_eq_true rfl, Nat.le_of_ble_eq_true rfl⟩) E hP hD hS [0, 1, 2, 3, 4, 5, 6, 7, 8, 9, 10] [] [0, 1, 2, 3, 4, 5, 6, 7, 8, 9, 10] rfl rfl rfl rfl (by decide) rfl rfl 0 6 rfl rfl rfl hl.1 rfl (Nat.le_of_ble_eq_true rfl) dX7_volumeOf_2 ⟨Nat.zero_le _, Nat.zero_le _⟩ (fun H locs hP hD hS => ?_)
  refine W.eq (g2 := F0 m 5 ls [.int (zb r_1)]) rfl ?_
  refine lv_if_eq (tgt := 17) hx hb dX7_volumeOf_5 (by decide) (fun c_3 => ?_) (fun c_3 => ?_)
  · have hf := ifp hf c_3
    refine lv_ldc2 (v := (-1 : Int64)) hx hb hown (hts (.constantLong RX7 49 (-1 : Int64)) (by decide +kernel)) dX7_volumeOf_17 ?_
    obtain rfl := Option.some.inj hf
    exact W.lret hx hb hr (fun t ht hW => ⟨⟨(), rfl, by rw [ht]; exact hP, hD⟩, hS.F ht⟩) hS.2.2 dX7_volumeOf_20
  · have hf := ifn hf c_3
    refine lv_aload_n hx hb dX7_volumeOf_8 rfl (lv_at hl 0 rfl) ?_
    refine va_get (D := D) (ci := 6) (v := .ref tv) (C := RX7) (T := TX7) (N := 7) hx hb hts iX7 hown hK hP 0 rfl rfl 2 (by decide) (hts (.fieldLink RX7 18 "SampleTracker$Table" "volumes" "[J") (by decide +kernel)) (fun _ h9 => h9) rfl dX7_volumeOf_9 ?_
    refine lv_iload_n hx hb dX7_volumeOf_12 rfl (lv_at hl 1 rfl) ?_
    obtain ⟨h_4, hf⟩ := ibk hf
    refine va_lald hx hb hK hP 3 2 rfl rfl (ib_in h_4) dX7_volumeOf_13 ?_
    refine lv_goto (tgt := 20) hx hb dX7_volumeOf_14 (by decide) ?_
    obtain rfl := Option.some.inj hf
    exact W.lret hx hb hr (fun t ht hW => ⟨⟨(), rfl, by rw [ht]; exact hP, hD⟩, hS.F ht⟩) hS.2.2 dX7_volumeOf_20

def fX7_isLive (we : Nat → Int32) (sa : Int32) (p1 : Int32) : Option (Bool) := ((fX7_wellOf we sa p1).bind fun r_1 => (if r_1 = (-1 : Int32) then some false else some true))

set_option maxHeartbeats 4000000 in
set_option maxRecDepth 100000 in
theorem cX7_isLive_ok (l : Launch) (D : va_G) (y : Nat → ClassId) (atb : Nat) (tp : Nat) (tw : Nat) (tv : Nat) (tf : Nat) (aq : Nat) (u0 : Nat) (u1 : Nat) (u2 : Nat) (u3 : Nat) (u4 : Nat) (pa : Nat → Int32) (we : Nat → Int32) (vo : Nat → Int64) (fm : Nat → Int32) (sa : Int32) (lo : Int64) (qs : Nat → Int32) (ql : Nat → Int64) (qt : Nat → Int32) (qw : Nat → Int32) (qv : Nat → Int64) (qn : Int32) (p1 : Int32) (res : Bool) (hf : fX7_isLive we sa p1 = some res) : CT l D y yX7_isLive wsX7_isLive ({ frames := 2, cells := 0, slots := 0, locals := 42 } : Room) [.ref atb, .int p1] [(atb, .inr (6, [.ref tp, .ref tw, .ref tv, .ref tf, .ref aq, .int sa, .long lo])), (tp, .inl (y 1, 121, .inl pa)), (tw, .inl (y 1, 121, .inl we)), (tv, .inl (y 2, 121, .inr (.inl vo))), (tf, .inl (y 3, 121, .inl fm)), (aq, .inr (3, [.ref u0, .ref u1, .ref u2, .ref u3, .ref u4, .int qn])), (u0, .inl (y 1, 256, .inl qs)), (u1, .inl (y 2, 256, .inr (.inl ql))), (u2, .inl (y 1, 256, .inl qt)), (u3, .inl (y 1, 256, .inl qw)), (u4, .inl (y 2, 256, .inr (.inl qv)))] (some (.int (zb res))) [(atb, .inr (6, [.ref tp, .ref tw, .ref tv, .ref tf, .ref aq, .int sa, .long lo])), (tp, .inl (y 1, 121, .inl pa)), (tw, .inl (y 1, 121, .inl we)), (tv, .inl (y 2, 121, .inr (.inl vo))), (tf, .inl (y 3, 121, .inl fm)), (aq, .inr (3, [.ref u0, .ref u1, .ref u2, .ref u3, .ref u4, .int qn])), (u0, .inl (y 1, 256, .inl qs)), (u1, .inl (y 2, 256, .inr (.inl ql))), (u2, .inl (y 1, 256, .inl qt)), (u3, .inl (y 1, 256, .inl qw)), (u4, .inl (y 2, 256, .inr (.inl qv)))] := by
  intro sz
  refine Met.ofW (cc := cX7_isLive) (maxL := 2) (ret := (some .boolean)) (by decide) rfl ?_
  intro p e s m args below meth c s₁ B hml hv
  obtain ⟨rfl, hsz, hP, hK, hD0, hst, hno⟩ := hv
  have hx := B.exec
  have hb := B.bytes
  have hr := B.returns
  have hts := atoms_spec (ws := wsX7_isLive) B.pre
  have hown : s.vm.findClass RX7 = some m.cls := findClass_of_methodNamed B.named
  have hlocks := B.notSynchronized
  subst hsz
  have hD := hD0.self (sz := s.heap.size)
  generalize hAe : va_A [(atb, .inr (6, [.ref tp, .ref tw, .ref tv, .ref tf, .ref aq, .int sa, .long lo])), (tp, .inl (y 1, 121, .inl pa)), (tw, .inl (y 1, 121, .inl we)), (tv, .inl (y 2, 121, .inr (.inl vo))), (tf, .inl (y 3, 121, .inl fm)), (aq, .inr (3, [.ref u0, .ref u1, .ref u2, .ref u3, .ref u4, .int qn])), (u0, .inl (y 1, 256, .inl qs)), (u1, .inl (y 2, 256, .inr (.inl ql))), (u2, .inl (y 1, 256, .inl qt)), (u3, .inl (y 1, 256, .inl qw)), (u4, .inl (y 2, 256, .inr (.inl qv)))] s.heap.size = A at hD hst ⊢
  have hA : ∀ q : Nat, s.heap.size ≤ q → A q := fun q h => by rw [← hAe]; exact Or.inr h
  have hS : va_S A s.heap s.heap [] := va_S.rf
  have E : Ev D y A s := ⟨hK, hst, hno, hA⟩
  have hfix : CallFix p m c cX7_isLive 2 s _ wsX7_isLive RX7 := ⟨hx, hb, hml, hown, hts⟩
  have hP : va_P D vwCl [(atb, .inr (6, [.ref tp, .ref tw, .ref tv, .ref tf, .ref aq, .int sa, .long lo])), (tp, .inl (y 1, 121, .inl pa)), (tw, .inl (y 1, 121, .inl we)), (tv, .inl (y 2, 121, .inr (.inl vo))), (tf, .inl (y 3, 121, .inl fm)), (aq, .inr (3, [.ref u0, .ref u1, .ref u2, .ref u3, .ref u4, .int qn])), (u0, .inl (y 1, 256, .inl qs)), (u1, .inl (y 2, 256, .inr (.inl ql))), (u2, .inl (y 1, 256, .inl qt)), (u3, .inl (y 1, 256, .inl qw)), (u4, .inl (y 2, 256, .inr (.inl qv)))] s.heap := hP
  have hl := lv_entry ([.ref atb, .int p1]) (n := 2) (Nat.le_of_ble_eq_true rfl)
  rw [lg_entry_eq]
  generalize (lg_sl ([.ref atb, .int p1]) ++ List.replicate (2 - (lg_sl ([.ref atb, .int p1])).length) Slot.unset).toArray = ls at hl ⊢
  have hl : lv_has ls 2 [(0, .ref atb), (1, .int p1)] := hl
  unfold fX7_isLive at hf
  refine lv_aload_n hx hb dX7_isLive_0 rfl (lv_at hl 0 rfl) ?_
  refine lv_iload_n hx hb dX7_isLive_1 rfl (lv_at hl 1 rfl) ?_
  obtain ⟨r_1, hc_2, hf⟩ := obd hf
  refine ct_V (As := [.int p1]) (rest := []) (wr := []) (wn := [(atb, .inr (6, [.ref tp, .ref tw, .ref tv, .ref tf, .ref aq, .int sa, .long lo])), (tp, .inl (y 1, 121, .inl pa)), (tw, .inl (y 1, 121, .inl we)), (tv, .inl (y 2, 121, .inr (.inl vo))), (tf, .inl (y 3, 121, .inl fm)), (aq, .inr (3, [.ref u0, .ref u1, .ref u2, .ref u3, .ref u4, .int qn])), (u0, .inl (y 1, 256, .inl qs)), (u1, .inl (y 2, 256, .inr (.inl ql))), (u2, .inl (y 1, 256, .inl qt)), (u3, .inl (y 1, 256, .inl qw)), (u4, .inl (y 2, 256, .inr (.inl qv)))]) hfix (cX7_wellOf_ok l D y atb tp tw tv tf aq u0 u1 u2 u3 u4 pa we vo fm sa lo qs ql qt qw qv qn p1 _ hc_2) (cwV 1 hts gX7_isLive_X7_wellOf rfl rfl rfl (by decide +kernel) ⟨Nat.le_of_ble_eq_true rfl, Nat.le_of_ble_eq_true rfl⟩) E hP hD hS [0, 1, 2, 3, 4, 5, 6, 7, 8, 9, 10] [] [0, 1, 2, 3, 4, 5, 6, 7, 8, 9, 10] rfl rfl rfl rfl (by decide) rfl rfl 0 6 rfl rfl rfl hl.1 rfl (Nat.le_of_ble_eq_true rfl) dX7_isLive_2 ⟨Nat.zero_le _, Nat.zero_le _⟩ (fun H locs hP hD hS => ?_)
  refine W.eq (g2 := F0 m 5 ls [.int r_1]) rfl ?_
  refine lv_iconst (v := (-1 : Int32)) hx hb dX7_isLive_5 (by decide) ?_
  refine lv_icmp_eq (tgt := 13) hx hb dX7_isLive_6 (by decide) (fun c_3 => ?_) (fun c_3 => ?_)
  · have hf := ifp hf c_3
    refine lv_iconst (v := (0 : Int32)) hx hb dX7_isLive_13 (by decide) ?_
    obtain rfl := Option.some.inj hf
    exact W.zret (ty := .boolean) hx hb hr rfl (fun t ht hW => ⟨⟨(), rfl, by rw [ht]; exact hP, hD⟩, hS.F ht⟩) hS.2.2 dX7_isLive_14
  · have hf := ifn hf c_3
    refine lv_iconst (v := (1 : Int32)) hx hb dX7_isLive_9 (by decide) ?_
    refine lv_goto (tgt := 14) hx hb dX7_isLive_10 (by decide) ?_
    obtain rfl := Option.some.inj hf
    exact W.zret (ty := .boolean) hx hb hr rfl (fun t ht hW => ⟨⟨(), rfl, by rw [ht]; exact hP, hD⟩, hS.F ht⟩) hS.2.2 dX7_isLive_14

def fX7_sampleIn_2 (we : Nat → Int32) (sa : Int32) (p1 : Int32) : Nat → Int32 → Option (Int32)
  | 0, _ => none
  | n + 1, v2_0 => ((fX8_isWell p1).bind fun r_1 => (if (zb r_1) = 0 then some (-1 : Int32) else (if sa < v2_0 then some (-1 : Int32) else ((fX7_wellOf we sa v2_0).bind fun r_5 => (if r_5 = p1 then some v2_0 else fX7_sampleIn_2 we sa p1 n (v2_0 + (1 : Int32)))))))

def fX7_sampleIn (we : Nat → Int32) (sa : Int32) (p1 : Int32) : Option (Int32) := fX7_sampleIn_2 we sa p1 FU (1 : Int32)

set_option maxHeartbeats 4000000 in
set_option maxRecDepth 100000 in
theorem cX7_sampleIn_ok (l : Launch) (D : va_G) (y : Nat → ClassId) (atb : Nat) (tp : Nat) (tw : Nat) (tv : Nat) (tf : Nat) (aq : Nat) (u0 : Nat) (u1 : Nat) (u2 : Nat) (u3 : Nat) (u4 : Nat) (pa : Nat → Int32) (we : Nat → Int32) (vo : Nat → Int64) (fm : Nat → Int32) (sa : Int32) (lo : Int64) (qs : Nat → Int32) (ql : Nat → Int64) (qt : Nat → Int32) (qw : Nat → Int32) (qv : Nat → Int64) (qn : Int32) (p1 : Int32) (res : Int32) (hf : fX7_sampleIn we sa p1 = some res) : CT l D y yX7_sampleIn wsX7_sampleIn ({ frames := 2, cells := 0, slots := 0, locals := 42 } : Room) [.ref atb, .int p1] [(atb, .inr (6, [.ref tp, .ref tw, .ref tv, .ref tf, .ref aq, .int sa, .long lo])), (tp, .inl (y 1, 121, .inl pa)), (tw, .inl (y 1, 121, .inl we)), (tv, .inl (y 2, 121, .inr (.inl vo))), (tf, .inl (y 3, 121, .inl fm)), (aq, .inr (3, [.ref u0, .ref u1, .ref u2, .ref u3, .ref u4, .int qn])), (u0, .inl (y 1, 256, .inl qs)), (u1, .inl (y 2, 256, .inr (.inl ql))), (u2, .inl (y 1, 256, .inl qt)), (u3, .inl (y 1, 256, .inl qw)), (u4, .inl (y 2, 256, .inr (.inl qv)))] (some (.int res)) [(atb, .inr (6, [.ref tp, .ref tw, .ref tv, .ref tf, .ref aq, .int sa, .long lo])), (tp, .inl (y 1, 121, .inl pa)), (tw, .inl (y 1, 121, .inl we)), (tv, .inl (y 2, 121, .inr (.inl vo))), (tf, .inl (y 3, 121, .inl fm)), (aq, .inr (3, [.ref u0, .ref u1, .ref u2, .ref u3, .ref u4, .int qn])), (u0, .inl (y 1, 256, .inl qs)), (u1, .inl (y 2, 256, .inr (.inl ql))), (u2, .inl (y 1, 256, .inl qt)), (u3, .inl (y 1, 256, .inl qw)), (u4, .inl (y 2, 256, .inr (.inl qv)))] := by
  intro sz
  refine Met.ofW (cc := cX7_sampleIn) (maxL := 3) (ret := (some .int)) (by decide) rfl ?_
  intro p e s m args below meth c s₁ B hml hv
  obtain ⟨rfl, hsz, hP, hK, hD0, hst, hno⟩ := hv
  have hx := B.exec
  have hb := B.bytes
  have hr := B.returns
  have hts := atoms_spec (ws := wsX7_sampleIn) B.pre
  have hown : s.vm.findClass RX7 = some m.cls := findClass_of_methodNamed B.named
  have hlocks := B.notSynchronized
  subst hsz
  have hD := hD0.self (sz := s.heap.size)
  generalize hAe : va_A [(atb, .inr (6, [.ref tp, .ref tw, .ref tv, .ref tf, .ref aq, .int sa, .long lo])), (tp, .inl (y 1, 121, .inl pa)), (tw, .inl (y 1, 121, .inl we)), (tv, .inl (y 2, 121, .inr (.inl vo))), (tf, .inl (y 3, 121, .inl fm)), (aq, .inr (3, [.ref u0, .ref u1, .ref u2, .ref u3, .ref u4, .int qn])), (u0, .inl (y 1, 256, .inl qs)), (u1, .inl (y 2, 256, .inr (.inl ql))), (u2, .inl (y 1, 256, .inl qt)), (u3, .inl (y 1, 256, .inl qw)), (u4, .inl (y 2, 256, .inr (.inl qv)))] s.heap.size = A at hD hst ⊢
  have hA : ∀ q : Nat, s.heap.size ≤ q → A q := fun q h => by rw [← hAe]; exact Or.inr h
  have hS : va_S A s.heap s.heap [] := va_S.rf
  have E : Ev D y A s := ⟨hK, hst, hno, hA⟩
  have hfix : CallFix p m c cX7_sampleIn 3 s _ wsX7_sampleIn RX7 := ⟨hx, hb, hml, hown, hts⟩
  have hP : va_P D vwCl [(atb, .inr (6, [.ref tp, .ref tw, .ref tv, .ref tf, .ref aq, .int sa, .long lo])), (tp, .inl (y 1, 121, .inl pa)), (tw, .inl (y 1, 121, .inl we)), (tv, .inl (y 2, 121, .inr (.inl vo))), (tf, .inl (y 3, 121, .inl fm)), (aq, .inr (3, [.ref u0, .ref u1, .ref u2, .ref u3, .ref u4, .int qn])), (u0, .inl (y 1, 256, .inl qs)), (u1, .inl (y 2, 256, .inr (.inl ql))), (u2, .inl (y 1, 256, .inl qt)), (u3, .inl (y 1, 256, .inl qw)), (u4, .inl (y 2, 256, .inr (.inl qv)))] s.heap := hP
  have iX7 : ∀ w ∈ wsX70, w ∈ wsX7_sampleIn := by decide +kernel
  have hl := lv_entry ([.ref atb, .int p1]) (n := 3) (Nat.le_of_ble_eq_true rfl)
  rw [lg_entry_eq]
  generalize (lg_sl ([.ref atb, .int p1]) ++ List.replicate (3 - (lg_sl ([.ref atb, .int p1])).length) Slot.unset).toArray = ls at hl ⊢
  have hl : lv_has ls 3 [(0, .ref atb), (1, .int p1)] := hl
  have hL2 : ∀ (n : Nat) (v2_0 : Int32) (H : Heap) (locs : List Loc) (ls : Array Slot), fX7_sampleIn_2 we sa p1 n v2_0 = some res → va_P D vwCl [(atb, .inr (6, [.ref tp, .ref tw, .ref tv, .ref tf, .ref aq, .int sa, .long lo])), (tp, .inl (y 1, 121, .inl pa)), (tw, .inl (y 1, 121, .inl we)), (tv, .inl (y 2, 121, .inr (.inl vo))), (tf, .inl (y 3, 121, .inl fm)), (aq, .inr (3, [.ref u0, .ref u1, .ref u2, .ref u3, .ref u4, .int qn])), (u0, .inl (y 1, 256, .inl qs)), (u1, .inl (y 2, 256, .inr (.inl ql))), (u2, .inl (y 1, 256, .inl qt)), (u3, .inl (y 1, 256, .inl qw)), (u4, .inl (y 2, 256, .inr (.inl qv)))] H → va_D A [(atb, .inr (6, [.ref tp, .ref tw, .ref tv, .ref tf, .ref aq, .int sa, .long lo])), (tp, .inl (y 1, 121, .inl pa)), (tw, .inl (y 1, 121, .inl we)), (tv, .inl (y 2, 121, .inr (.inl vo))), (tf, .inl (y 3, 121, .inl fm)), (aq, .inr (3, [.ref u0, .ref u1, .ref u2, .ref u3, .ref u4, .int qn])), (u0, .inl (y 1, 256, .inl qs)), (u1, .inl (y 2, 256, .inr (.inl ql))), (u2, .inl (y 1, 256, .inl qt)), (u3, .inl (y 1, 256, .inl qw)), (u4, .inl (y 2, 256, .inr (.inl qv)))] → va_S A s.heap H locs → lv_has ls 3 [(0, .ref atb), (1, .int p1), (2, .int v2_0)] → W p l e (headSpec wsX7_sampleIn ({ frames := 2, cells := 0, slots := 0, locals := 42 } : Room)).room s m ([.ref atb, .int p1] : List Value).toArray below meth c H locs 0 0 (MQ below (Po D (fun _ : Unit => some (.int res)) (fun _ => [(atb, .inr (6, [.ref tp, .ref tw, .ref tv, .ref tf, .ref aq, .int sa, .long lo])), (tp, .inl (y 1, 121, .inl pa)), (tw, .inl (y 1, 121, .inl we)), (tv, .inl (y 2, 121, .inr (.inl vo))), (tf, .inl (y 3, 121, .inl fm)), (aq, .inr (3, [.ref u0, .ref u1, .ref u2, .ref u3, .ref u4, .int qn])), (u0, .inl (y 1, 256, .inl qs)), (u1, .inl (y 2, 256, .inr (.inl ql))), (u2, .inl (y 1, 256, .inl qt)), (u3, .inl (y 1, 256, .inl qw)), (u4, .inl (y 2, 256, .inr (.inl qv)))]) A) ([.ref atb, .int p1] : List Value).toArray s 0 0 A) (F0 m 2 ls []) := by
    intro n
    induction n with
    | zero =>
      intro v2_0 H locs ls hf
      exact absurd (show (none : Option (Int32)) = some res from hf) (fun q => by cases q)
    | succ n ih2 =>
      intro v2_0 H locs ls hf hP hD hS hl
      unfold fX7_sampleIn_2 at hf
      refine lv_iload_n hx hb dX7_sampleIn_2 rfl (lv_at hl 1 rfl) ?_
      obtain ⟨r_1, hc_2, hf⟩ := obd hf
      refine ct_SN (As := [.int p1]) (rest := []) (wr := [(atb, .inr (6, [.ref tp, .ref tw, .ref tv, .ref tf, .ref aq, .int sa, .long lo])), (tp, .inl (y 1, 121, .inl pa)), (tw, .inl (y 1, 121, .inl we)), (tv, .inl (y 2, 121, .inr (.inl vo))), (tf, .inl (y 3, 121, .inl fm)), (aq, .inr (3, [.ref u0, .ref u1, .ref u2, .ref u3, .ref u4, .int qn])), (u0, .inl (y 1, 256, .inl qs)), (u1, .inl (y 2, 256, .inr (.inl ql))), (u2, .inl (y 1, 256, .inl qt)), (u3, .inl (y 1, 256, .inl qw)), (u4, .inl (y 2, 256, .inr (.inl qv)))]) (wn := [(atb, .inr (6, [.ref tp, .ref tw, .ref tv, .ref tf, .ref aq, .int sa, .long lo])), (tp, .inl (y 1, 121, .inl pa)), (tw, .inl (y 1, 121, .inl we)), (tv, .inl (y 2, 121, .inr (.inl vo))), (tf, .inl (y 3, 121, .inl fm)), (aq, .inr (3, [.ref u0, .ref u1, .ref u2, .ref u3, .ref u4, .int qn])), (u0, .inl (y 1, 256, .inl qs)), (u1, .inl (y 2, 256, .inr (.inl ql))), (u2, .inl (y 1, 256, .inl qt)), (u3, .inl (y 1, 256, .inl qw)), (u4, .inl (y 2, 256, .inr (.inl qv)))]) hfix (cX8_isWell_ok l D y p1 _ hc_2) ⟨va_cnB 1 hts gX7_sampleIn_X8_isWell_n51 rfl rfl rfl (E.2.2.1.2 (.methodLinkNest RX7 51 yX8_isWell RX8) (by decide +kernel)) (hts (.initialized RX8) (by decide +kernel)) (by decide +kernel) ⟨Nat.le_of_ble_eq_true rfl, Nat.le_of_ble_eq_true rfl⟩, hts (.static yX8_isWell) (by decide +kernel), trivial⟩ E hP hD hS [] [0, 1, 2, 3, 4, 5, 6, 7, 8, 9, 10] [0, 1, 2, 3, 4, 5, 6, 7, 8, 9, 10] rfl rfl rfl rfl (by decide) rfl rfl rfl hl.1 rfl (Nat.le_of_ble_eq_true rfl) dX7_sampleIn_3 ⟨Nat.zero_le _, Nat.zero_le _⟩ (fun H locs hP hD hS => ?_)
      refine W.eq (g2 := F0 m 6 ls [.int (zb r_1)]) rfl ?_
      refine lv_if_eq (tgt := 34) hx hb dX7_sampleIn_6 (by decide) (fun c_3 => ?_) (fun c_3 => ?_)
      · have hf := ifp hf c_3
        refine lv_iconst (v := (-1 : Int32)) hx hb dX7_sampleIn_34 (by decide) ?_
        obtain rfl := Option.some.inj hf
        exact W.iret hx hb hr (fun t ht hW => ⟨⟨(), rfl, by rw [ht]; exact hP, hD⟩, hS.F ht⟩) hS.2.2 dX7_sampleIn_35
      · have hf := ifn hf c_3
        refine lv_iload_n hx hb dX7_sampleIn_9 rfl (lv_at hl 2 rfl) ?_
        refine lv_aload_n hx hb dX7_sampleIn_10 rfl (lv_at hl 0 rfl) ?_
        refine va_get (D := D) (ci := 6) (v := .int sa) (C := RX7) (T := TX7) (N := 7) hx hb hts iX7 hown hK hP 0 rfl rfl 5 (by decide) (hts (.fieldLink RX7 33 "SampleTracker$Table" "samples" "I") (by decide +kernel)) (fun _ h9 => h9) rfl dX7_sampleIn_11 ?_
        refine lv_icmp_gt (tgt := 34) hx hb dX7_sampleIn_14 (by decide) (fun c_4 => ?_) (fun c_4 => ?_)
        · have hf := ifp hf c_4
          refine lv_iconst (v := (-1 : Int32)) hx hb dX7_sampleIn_34 (by decide) ?_
          obtain rfl := Option.some.inj hf
          exact W.iret hx hb hr (fun t ht hW => ⟨⟨(), rfl, by rw [ht]; exact hP, hD⟩, hS.F ht⟩) hS.2.2 dX7_sampleIn_35
        · have hf := ifn hf c_4
          refine lv_aload_n hx hb dX7_sampleIn_17 rfl (lv_at hl 0 rfl) ?_
          refine lv_iload_n hx hb dX7_sampleIn_18 rfl (lv_at hl 2 rfl) ?_
          obtain ⟨r_5, hc_6, hf⟩ := obd hf
          refine ct_V (As := [.int v2_0]) (rest := []) (wr := []) (wn := [(atb, .inr (6, [.ref tp, .ref tw, .ref tv, .ref tf, .ref aq, .int sa, .long lo])), (tp, .inl (y 1, 121, .inl pa)), (tw, .inl (y 1, 121, .inl we)), (tv, .inl (y 2, 121, .inr (.inl vo))), (tf, .inl (y 3, 121, .inl fm)), (aq, .inr (3, [.ref u0, .ref u1, .ref u2, .ref u3, .ref u4, .int qn])), (u0, .inl (y 1, 256, .inl qs)), (u1, .inl (y 2, 256, .inr (.inl ql))), (u2, .inl (y 1, 256, .inl qt)), (u3, .inl (y 1, 256, .inl qw)), (u4, .inl (y 2, 256, .inr (.inl qv)))]) hfix (cX7_wellOf_ok l D y atb tp tw tv tf aq u0 u1 u2 u3 u4 pa we vo fm sa lo qs ql qt qw qv qn v2_0 _ hc_6) (cwV 1 hts gX7_sampleIn_X7_wellOf rfl rfl rfl (by decide +kernel) ⟨Nat.le_of_ble_eq_true rfl, Nat.le_of_ble_eq_true rfl⟩) E hP hD hS [0, 1, 2, 3, 4, 5, 6, 7, 8, 9, 10] [] [0, 1, 2, 3, 4, 5, 6, 7, 8, 9, 10] rfl rfl rfl rfl (by decide) rfl rfl 0 6 rfl rfl rfl hl.1 rfl (Nat.le_of_ble_eq_true rfl) dX7_sampleIn_19 ⟨Nat.zero_le _, Nat.zero_le _⟩ (fun H locs hP hD hS => ?_)
          refine W.eq (g2 := F0 m 22 ls [.int r_5]) rfl ?_
          refine lv_iload_n hx hb dX7_sampleIn_22 rfl (lv_at hl 1 rfl) ?_
          refine lv_icmp_ne (tgt := 28) hx hb dX7_sampleIn_23 (by decide) (fun c_7 => ?_) (fun c_7 => ?_)
          · have hf := ifn hf c_7
            refine lv_iinc (v := (v2_0 + (1 : Int32))) (lv' := [(2, .int (v2_0 + (1 : Int32))), (0, .ref atb), (1, .int p1)]) hx hb dX7_sampleIn_28 hl (k := 2) rfl rfl (by decide) rfl (fun ls hl => ?_)
            refine lv_goto (tgt := 2) hx hb dX7_sampleIn_31 (by decide) ?_
            exact ih2 (v2_0 + (1 : Int32)) _ _ _ hf hP hD hS (lv_sub hl [1, 2, 0] rfl)
          · have hf := ifp hf c_7
            refine lv_iload_n hx hb dX7_sampleIn_26 rfl (lv_at hl 2 rfl) ?_
            obtain rfl := Option.some.inj hf
            exact W.iret hx hb hr (fun t ht hW => ⟨⟨(), rfl, by rw [ht]; exact hP, hD⟩, hS.F ht⟩) hS.2.2 dX7_sampleIn_27
  unfold fX7_sampleIn at hf
  refine lv_iconst (v := (1 : Int32)) hx hb dX7_sampleIn_0 (by decide) ?_
  refine lv_istore_n (lv' := [(2, .int (1 : Int32)), (0, .ref atb), (1, .int p1)]) hx hb dX7_sampleIn_1 rfl hl (by decide) rfl (fun ls hl => ?_)
  exact hL2 FU (1 : Int32) _ _ _ hf hP hD hS (lv_sub hl [1, 2, 0] rfl)

def fX7_liveCount_4 (we : Nat → Int32) (sa : Int32) : Nat → Int32 → Int32 → Option (Int32)
  | 0, _, _ => none
  | n + 1, v4_0, v4_1 => (if sa < v4_1 then some v4_0 else ((fX7_isLive we sa v4_1).bind fun r_2 => (if (zb r_2) = 0 then fX7_liveCount_4 we sa n (v4_0 + (0 : Int32)) (v4_1 + (1 : Int32)) else fX7_liveCount_4 we sa n (v4_0 + (1 : Int32)) (v4_1 + (1 : Int32)))))

def fX7_liveCount (we : Nat → Int32) (sa : Int32) : Option (Int32) := fX7_liveCount_4 we sa FU (0 : Int32) (1 : Int32)

set_option maxHeartbeats 4000000 in
set_option maxRecDepth 100000 in
theorem cX7_liveCount_ok (l : Launch) (D : va_G) (y : Nat → ClassId) (atb : Nat) (tp : Nat) (tw : Nat) (tv : Nat) (tf : Nat) (aq : Nat) (u0 : Nat) (u1 : Nat) (u2 : Nat) (u3 : Nat) (u4 : Nat) (pa : Nat → Int32) (we : Nat → Int32) (vo : Nat → Int64) (fm : Nat → Int32) (sa : Int32) (lo : Int64) (qs : Nat → Int32) (ql : Nat → Int64) (qt : Nat → Int32) (qw : Nat → Int32) (qv : Nat → Int64) (qn : Int32) (res : Int32) (hf : fX7_liveCount we sa = some res) : CT l D y yX7_liveCount wsX7_liveCount ({ frames := 3, cells := 0, slots := 0, locals := 63 } : Room) [.ref atb] [(atb, .inr (6, [.ref tp, .ref tw, .ref tv, .ref tf, .ref aq, .int sa, .long lo])), (tp, .inl (y 1, 121, .inl pa)), (tw, .inl (y 1, 121, .inl we)), (tv, .inl (y 2, 121, .inr (.inl vo))), (tf, .inl (y 3, 121, .inl fm)), (aq, .inr (3, [.ref u0, .ref u1, .ref u2, .ref u3, .ref u4, .int qn])), (u0, .inl (y 1, 256, .inl qs)), (u1, .inl (y 2, 256, .inr (.inl ql))), (u2, .inl (y 1, 256, .inl qt)), (u3, .inl (y 1, 256, .inl qw)), (u4, .inl (y 2, 256, .inr (.inl qv)))] (some (.int res)) [(atb, .inr (6, [.ref tp, .ref tw, .ref tv, .ref tf, .ref aq, .int sa, .long lo])), (tp, .inl (y 1, 121, .inl pa)), (tw, .inl (y 1, 121, .inl we)), (tv, .inl (y 2, 121, .inr (.inl vo))), (tf, .inl (y 3, 121, .inl fm)), (aq, .inr (3, [.ref u0, .ref u1, .ref u2, .ref u3, .ref u4, .int qn])), (u0, .inl (y 1, 256, .inl qs)), (u1, .inl (y 2, 256, .inr (.inl ql))), (u2, .inl (y 1, 256, .inl qt)), (u3, .inl (y 1, 256, .inl qw)), (u4, .inl (y 2, 256, .inr (.inl qv)))] := by
  intro sz
  refine Met.ofW (cc := cX7_liveCount) (maxL := 3) (ret := (some .int)) (by decide) rfl ?_
  intro p e s m args below meth c s₁ B hml hv
  obtain ⟨rfl, hsz, hP, hK, hD0, hst, hno⟩ := hv
  have hx := B.exec
  have hb := B.bytes
  have hr := B.returns
  have hts := atoms_spec (ws := wsX7_liveCount) B.pre
  have hown : s.vm.findClass RX7 = some m.cls := findClass_of_methodNamed B.named
  have hlocks := B.notSynchronized
  subst hsz
  have hD := hD0.self (sz := s.heap.size)
  generalize hAe : va_A [(atb, .inr (6, [.ref tp, .ref tw, .ref tv, .ref tf, .ref aq, .int sa, .long lo])), (tp, .inl (y 1, 121, .inl pa)), (tw, .inl (y 1, 121, .inl we)), (tv, .inl (y 2, 121, .inr (.inl vo))), (tf, .inl (y 3, 121, .inl fm)), (aq, .inr (3, [.ref u0, .ref u1, .ref u2, .ref u3, .ref u4, .int qn])), (u0, .inl (y 1, 256, .inl qs)), (u1, .inl (y 2, 256, .inr (.inl ql))), (u2, .inl (y 1, 256, .inl qt)), (u3, .inl (y 1, 256, .inl qw)), (u4, .inl (y 2, 256, .inr (.inl qv)))] s.heap.size = A at hD hst ⊢
  have hA : ∀ q : Nat, s.heap.size ≤ q → A q := fun q h => by rw [← hAe]; exact Or.inr h
  have hS : va_S A s.heap s.heap [] := va_S.rf
  have E : Ev D y A s := ⟨hK, hst, hno, hA⟩
  have hfix : CallFix p m c cX7_liveCount 3 s _ wsX7_liveCount RX7 := ⟨hx, hb, hml, hown, hts⟩
  have hP : va_P D vwCl [(atb, .inr (6, [.ref tp, .ref tw, .ref tv, .ref tf, .ref aq, .int sa, .long lo])), (tp, .inl (y 1, 121, .inl pa)), (tw, .inl (y 1, 121, .inl we)), (tv, .inl (y 2, 121, .inr (.inl vo))), (tf, .inl (y 3, 121, .inl fm)), (aq, .inr (3, [.ref u0, .ref u1, .ref u2, .ref u3, .ref u4, .int qn])), (u0, .inl (y 1, 256, .inl qs)), (u1, .inl (y 2, 256, .inr (.inl ql))), (u2, .inl (y 1, 256, .inl qt)), (u3, .inl (y 1, 256, .inl qw)), (u4, .inl (y 2, 256, .inr (.inl qv)))] s.heap := hP
  have iX7 : ∀ w ∈ wsX70, w ∈ wsX7_liveCount := by decide +kernel
  have hl := lv_entry ([.ref atb]) (n := 3) (Nat.le_of_ble_eq_true rfl)
  rw [lg_entry_eq]
  generalize (lg_sl ([.ref atb]) ++ List.replicate (3 - (lg_sl ([.ref atb])).length) Slot.unset).toArray = ls at hl ⊢
  have hl : lv_has ls 3 [(0, .ref atb)] := hl
  have hL4 : ∀ (n : Nat) (v4_0 : Int32) (v4_1 : Int32) (H : Heap) (locs : List Loc) (ls : Array Slot), fX7_liveCount_4 we sa n v4_0 v4_1 = some res → va_P D vwCl [(atb, .inr (6, [.ref tp, .ref tw, .ref tv, .ref tf, .ref aq, .int sa, .long lo])), (tp, .inl (y 1, 121, .inl pa)), (tw, .inl (y 1, 121, .inl we)), (tv, .inl (y 2, 121, .inr (.inl vo))), (tf, .inl (y 3, 121, .inl fm)), (aq, .inr (3, [.ref u0, .ref u1, .ref u2, .ref u3, .ref u4, .int qn])), (u0, .inl (y 1, 256, .inl qs)), (u1, .inl (y 2, 256, .inr (.inl ql))), (u2, .inl (y 1, 256, .inl qt)), (u3, .inl (y 1, 256, .inl qw)), (u4, .inl (y 2, 256, .inr (.inl qv)))] H → va_D A [(atb, .inr (6, [.ref tp, .ref tw, .ref tv, .ref tf, .ref aq, .int sa, .long lo])), (tp, .inl (y 1, 121, .inl pa)), (tw, .inl (y 1, 121, .inl we)), (tv, .inl (y 2, 121, .inr (.inl vo))), (tf, .inl (y 3, 121, .inl fm)), (aq, .inr (3, [.ref u0, .ref u1, .ref u2, .ref u3, .ref u4, .int qn])), (u0, .inl (y 1, 256, .inl qs)), (u1, .inl (y 2, 256, .inr (.inl ql))), (u2, .inl (y 1, 256, .inl qt)), (u3, .inl (y 1, 256, .inl qw)), (u4, .inl (y 2, 256, .inr (.inl qv)))] → va_S A s.heap H locs → lv_has ls 3 [(0, .ref atb), (1, .int v4_0), (2, .int v4_1)] → W p l e (headSpec wsX7_liveCount ({ frames := 3, cells := 0, slots := 0, locals := 63 } : Room)).room s m ([.ref atb] : List Value).toArray below meth c H locs 0 0 (MQ below (Po D (fun _ : Unit => some (.int res)) (fun _ => [(atb, .inr (6, [.ref tp, .ref tw, .ref tv, .ref tf, .ref aq, .int sa, .long lo])), (tp, .inl (y 1, 121, .inl pa)), (tw, .inl (y 1, 121, .inl we)), (tv, .inl (y 2, 121, .inr (.inl vo))), (tf, .inl (y 3, 121, .inl fm)), (aq, .inr (3, [.ref u0, .ref u1, .ref u2, .ref u3, .ref u4, .int qn])), (u0, .inl (y 1, 256, .inl qs)), (u1, .inl (y 2, 256, .inr (.inl ql))), (u2, .inl (y 1, 256, .inl qt)), (u3, .inl (y 1, 256, .inl qw)), (u4, .inl (y 2, 256, .inr (.inl qv)))]) A) ([.ref atb] : List Value).toArray s 0 0 A) (F0 m 4 ls []) := by
    intro n
    induction n with
    | zero =>
      intro v4_0 v4_1 H locs ls hf
      exact absurd (show (none : Option (Int32)) = some res from hf) (fun q => by cases q)
    | succ n ih4 =>
      intro v4_0 v4_1 H locs ls hf hP hD hS hl
      unfold fX7_liveCount_4 at hf
      refine lv_iload_n hx hb dX7_liveCount_4 rfl (lv_at hl 2 rfl) ?_
      refine lv_aload_n hx hb dX7_liveCount_5 rfl (lv_at hl 0 rfl) ?_
      refine va_get (D := D) (ci := 6) (v := .int sa) (C := RX7) (T := TX7) (N := 7) hx hb hts iX7 hown hK hP 0 rfl rfl 5 (by decide) (hts (.fieldLink RX7 33 "SampleTracker$Table" "samples" "I") (by decide +kernel)) (fun _ h9 => h9) rfl dX7_liveCount_6 ?_
      refine lv_icmp_gt (tgt := 34) hx hb dX7_liveCount_9 (by decide) (fun c_1 => ?_) (fun c_1 => ?_)
      · have hf := ifp hf c_1
        refine lv_iload_n hx hb dX7_liveCount_34 rfl (lv_at hl 1 rfl) ?_
        obtain rfl := Option.some.inj hf
        exact W.iret hx hb hr (fun t ht hW => ⟨⟨(), rfl, by rw [ht]; exact hP, hD⟩, hS.F ht⟩) hS.2.2 dX7_liveCount_35
      · have hf := ifn hf c_1
        refine lv_iload_n hx hb dX7_liveCount_12 rfl (lv_at hl 1 rfl) ?_
        refine lv_aload_n hx hb dX7_liveCount_13 rfl (lv_at hl 0 rfl) ?_
        refine lv_iload_n hx hb dX7_liveCount_14 rfl (lv_at hl 2 rfl) ?_
        obtain ⟨r_2, hc_3, hf⟩ := obd hf
        refine ct_V (As := [.int v4_1]) (rest := [.int v4_0]) (wr := []) (wn := [(atb, .inr (6, [.ref tp, .ref tw, .ref tv, .ref tf, .ref aq, .int sa, .long lo])), (tp, .inl (y 1, 121, .inl pa)), (tw, .inl (y 1, 121, .inl we)), (tv, .inl (y 2, 121, .inr (.inl vo))), (tf, .inl (y 3, 121, .inl fm)), (aq, .inr (3, [.ref u0, .ref u1, .ref u2, .ref u3, .ref u4, .int qn])), (u0, .inl (y 1, 256, .inl qs)), (u1, .inl (y 2, 256, .inr (.inl ql))), (u2, .inl (y 1, 256, .inl qt)), (u3, .inl (y 1, 256, .inl qw)), (u4, .inl (y 2, 256, .inr (.inl qv)))]) hfix (cX7_isLive_ok l D y atb tp tw tv tf aq u0 u1 u2 u3 u4 pa we vo fm sa lo qs ql qt qw qv qn v4_1 _ hc_3) (cwV 1 hts gX7_liveCount_X7_isLive rfl rfl rfl (by decide +kernel) ⟨Nat.le_of_ble_eq_true rfl, Nat.le_of_ble_eq_true rfl⟩) E hP hD hS [0, 1, 2, 3, 4, 5, 6, 7, 8, 9, 10] [] [0, 1, 2, 3, 4, 5, 6, 7, 8, 9, 10] rfl rfl rfl rfl (by decide) rfl rfl 0 6 rfl rfl rfl hl.1 rfl (Nat.le_of_ble_eq_true rfl) dX7_liveCount_15 ⟨Nat.zero_le _, Nat.zero_le _⟩ (fun H locs hP hD hS => ?_)
        refine W.eq (g2 := F0 m 18 ls [.int (zb r_2), .int v4_0]) rfl ?_
        refine lv_if_eq (tgt := 25) hx hb dX7_liveCount_18 (by decide) (fun c_4 => ?_) (fun c_4 => ?_)
        · have hf := ifp hf c_4
          refine lv_iconst (v := (0 : Int32)) hx hb dX7_liveCount_25 (by decide) ?_
          refine lv_iadd hx hb dX7_liveCount_26 ?_
          refine lv_istore_n (lv' := [(1, .int (v4_0 + (0 : Int32))), (0, .ref atb), (2, .int v4_1)]) hx hb dX7_liveCount_27 rfl hl (by decide) rfl (fun ls hl => ?_)
          refine lv_iinc (v := (v4_1 + (1 : Int32))) (lv' := [(2, .int (v4_1 + (1 : Int32))), (1, .int (v4_0 + (0 : Int32))), (0, .ref atb)]) hx hb dX7_liveCount_28 hl (k := 2) rfl rfl (by decide) rfl (fun ls hl => ?_)
          refine lv_goto (tgt := 4) hx hb dX7_liveCount_31 (by decide) ?_
          exact ih4 (v4_0 + (0 : Int32)) (v4_1 + (1 : Int32)) _ _ _ hf hP hD hS (lv_sub hl [2, 1, 0] rfl)
        · have hf := ifn hf c_4
          refine lv_iconst (v := (1 : Int32)) hx hb dX7_liveCount_21 (by decide) ?_
          refine lv_goto (tgt := 26) hx hb dX7_liveCount_22 (by decide) ?_
          refine lv_iadd hx hb dX7_liveCount_26 ?_
          refine lv_istore_n (lv' := [(1, .int (v4_0 + (1 : Int32))), (0, .ref atb), (2, .int v4_1)]) hx hb dX7_liveCount_27 rfl hl (by decide) rfl (fun ls hl => ?_)
          refine lv_iinc (v := (v4_1 + (1 : Int32))) (lv' := [(2, .int (v4_1 + (1 : Int32))), (1, .int (v4_0 + (1 : Int32))), (0, .ref atb)]) hx hb dX7_liveCount_28 hl (k := 2) rfl rfl (by decide) rfl (fun ls hl => ?_)
          refine lv_goto (tgt := 4) hx hb dX7_liveCount_31 (by decide) ?_
          exact ih4 (v4_0 + (1 : Int32)) (v4_1 + (1 : Int32)) _ _ _ hf hP hD hS (lv_sub hl [2, 1, 0] rfl)
  unfold fX7_liveCount at hf
  refine lv_iconst (v := (0 : Int32)) hx hb dX7_liveCount_0 (by decide) ?_
  refine lv_istore_n (lv' := [(1, .int (0 : Int32)), (0, .ref atb)]) hx hb dX7_liveCount_1 rfl hl (by decide) rfl (fun ls hl => ?_)
  refine lv_iconst (v := (1 : Int32)) hx hb dX7_liveCount_2 (by decide) ?_
  refine lv_istore_n (lv' := [(2, .int (1 : Int32)), (1, .int (0 : Int32)), (0, .ref atb)]) hx hb dX7_liveCount_3 rfl hl (by decide) rfl (fun ls hl => ?_)
  exact hL4 FU (0 : Int32) (1 : Int32) _ _ _ hf hP hD hS (lv_sub hl [2, 1, 0] rfl)

def fX7_childrenOf_4 (pa : Nat → Int32) (sa : Int32) (p1 : Int32) : Nat → Int32 → Int32 → Option (Int32)
  | 0, _, _ => none
  | n + 1, v4_0, v4_1 => (if sa < v4_1 then some v4_0 else ((fX7_parentOf pa sa v4_1).bind fun r_2 => (if r_2 = p1 then fX7_childrenOf_4 pa sa p1 n (v4_0 + (1 : Int32)) (v4_1 + (1 : Int32)) else fX7_childrenOf_4 pa sa p1 n (v4_0 + (0 : Int32)) (v4_1 + (1 : Int32)))))

def fX7_childrenOf (pa : Nat → Int32) (sa : Int32) (p1 : Int32) : Option (Int32) := fX7_childrenOf_4 pa sa p1 FU (0 : Int32) (1 : Int32)

set_option maxHeartbeats 4000000 in
set_option maxRecDepth 100000 in
theorem cX7_childrenOf_ok (l : Launch) (D : va_G) (y : Nat → ClassId) (atb : Nat) (tp : Nat) (tw : Nat) (tv : Nat) (tf : Nat) (aq : Nat) (u0 : Nat) (u1 : Nat) (u2 : Nat) (u3 : Nat) (u4 : Nat) (pa : Nat → Int32) (we : Nat → Int32) (vo : Nat → Int64) (fm : Nat → Int32) (sa : Int32) (lo : Int64) (qs : Nat → Int32) (ql : Nat → Int64) (qt : Nat → Int32) (qw : Nat → Int32) (qv : Nat → Int64) (qn : Int32) (p1 : Int32) (res : Int32) (hf : fX7_childrenOf pa sa p1 = some res) : CT l D y yX7_childrenOf wsX7_childrenOf ({ frames := 2, cells := 0, slots := 0, locals := 42 } : Room) [.ref atb, .int p1] [(atb, .inr (6, [.ref tp, .ref tw, .ref tv, .ref tf, .ref aq, .int sa, .long lo])), (tp, .inl (y 1, 121, .inl pa)), (tw, .inl (y 1, 121, .inl we)), (tv, .inl (y 2, 121, .inr (.inl vo))), (tf, .inl (y 3, 121, .inl fm)), (aq, .inr (3, [.ref u0, .ref u1, .ref u2, .ref u3, .ref u4, .int qn])), (u0, .inl (y 1, 256, .inl qs)), (u1, .inl (y 2, 256, .inr (.inl ql))), (u2, .inl (y 1, 256, .inl qt)), (u3, .inl (y 1, 256, .inl qw)), (u4, .inl (y 2, 256, .inr (.inl qv)))] (some (.int res)) [(atb, .inr (6, [.ref tp, .ref tw, .ref tv, .ref tf, .ref aq, .int sa, .long lo])), (tp, .inl (y 1, 121, .inl pa)), (tw, .inl (y 1, 121, .inl we)), (tv, .inl (y 2, 121, .inr (.inl vo))), (tf, .inl (y 3, 121, .inl fm)), (aq, .inr (3, [.ref u0, .ref u1, .ref u2, .ref u3, .ref u4, .int qn])), (u0, .inl (y 1, 256, .inl qs)), (u1, .inl (y 2, 256, .inr (.inl ql))), (u2, .inl (y 1, 256, .inl qt)), (u3, .inl (y 1, 256, .inl qw)), (u4, .inl (y 2, 256, .inr (.inl qv)))] := by
  intro sz
  refine Met.ofW (cc := cX7_childrenOf) (maxL := 4) (ret := (some .int)) (by decide) rfl ?_
  intro p e s m args below meth c s₁ B hml hv
  obtain ⟨rfl, hsz, hP, hK, hD0, hst, hno⟩ := hv
  have hx := B.exec
  have hb := B.bytes
  have hr := B.returns
  have hts := atoms_spec (ws := wsX7_childrenOf) B.pre
  have hown : s.vm.findClass RX7 = some m.cls := findClass_of_methodNamed B.named
  have hlocks := B.notSynchronized
  subst hsz
  have hD := hD0.self (sz := s.heap.size)
  generalize hAe : va_A [(atb, .inr (6, [.ref tp, .ref tw, .ref tv, .ref tf, .ref aq, .int sa, .long lo])), (tp, .inl (y 1, 121, .inl pa)), (tw, .inl (y 1, 121, .inl we)), (tv, .inl (y 2, 121, .inr (.inl vo))), (tf, .inl (y 3, 121, .inl fm)), (aq, .inr (3, [.ref u0, .ref u1, .ref u2, .ref u3, .ref u4, .int qn])), (u0, .inl (y 1, 256, .inl qs)), (u1, .inl (y 2, 256, .inr (.inl ql))), (u2, .inl (y 1, 256, .inl qt)), (u3, .inl (y 1, 256, .inl qw)), (u4, .inl (y 2, 256, .inr (.inl qv)))] s.heap.size = A at hD hst ⊢
  have hA : ∀ q : Nat, s.heap.size ≤ q → A q := fun q h => by rw [← hAe]; exact Or.inr h
  have hS : va_S A s.heap s.heap [] := va_S.rf
  have E : Ev D y A s := ⟨hK, hst, hno, hA⟩
  have hfix : CallFix p m c cX7_childrenOf 4 s _ wsX7_childrenOf RX7 := ⟨hx, hb, hml, hown, hts⟩
  have hP : va_P D vwCl [(atb, .inr (6, [.ref tp, .ref tw, .ref tv, .ref tf, .ref aq, .int sa, .long lo])), (tp, .inl (y 1, 121, .inl pa)), (tw, .inl (y 1, 121, .inl we)), (tv, .inl (y 2, 121, .inr (.inl vo))), (tf, .inl (y 3, 121, .inl fm)), (aq, .inr (3, [.ref u0, .ref u1, .ref u2, .ref u3, .ref u4, .int qn])), (u0, .inl (y 1, 256, .inl qs)), (u1, .inl (y 2, 256, .inr (.inl ql))), (u2, .inl (y 1, 256, .inl qt)), (u3, .inl (y 1, 256, .inl qw)), (u4, .inl (y 2, 256, .inr (.inl qv)))] s.heap := hP
  have iX7 : ∀ w ∈ wsX70, w ∈ wsX7_childrenOf := by decide +kernel
  have hl := lv_entry ([.ref atb, .int p1]) (n := 4) (Nat.le_of_ble_eq_true rfl)
  rw [lg_entry_eq]
  generalize (lg_sl ([.ref atb, .int p1]) ++ List.replicate (4 - (lg_sl ([.ref atb, .int p1])).length) Slot.unset).toArray = ls at hl ⊢
  have hl : lv_has ls 4 [(0, .ref atb), (1, .int p1)] := hl
  have hL4 : ∀ (n : Nat) (v4_0 : Int32) (v4_1 : Int32) (H : Heap) (locs : List Loc) (ls : Array Slot), fX7_childrenOf_4 pa sa p1 n v4_0 v4_1 = some res → va_P D vwCl [(atb, .inr (6, [.ref tp, .ref tw, .ref tv, .ref tf, .ref aq, .int sa, .long lo])), (tp, .inl (y 1, 121, .inl pa)), (tw, .inl (y 1, 121, .inl we)), (tv, .inl (y 2, 121, .inr (.inl vo))), (tf, .inl (y 3, 121, .inl fm)), (aq, .inr (3, [.ref u0, .ref u1, .ref u2, .ref u3, .ref u4, .int qn])), (u0, .inl (y 1, 256, .inl qs)), (u1, .inl (y 2, 256, .inr (.inl ql))), (u2, .inl (y 1, 256, .inl qt)), (u3, .inl (y 1, 256, .inl qw)), (u4, .inl (y 2, 256, .inr (.inl qv)))] H → va_D A [(atb, .inr (6, [.ref tp, .ref tw, .ref tv, .ref tf, .ref aq, .int sa, .long lo])), (tp, .inl (y 1, 121, .inl pa)), (tw, .inl (y 1, 121, .inl we)), (tv, .inl (y 2, 121, .inr (.inl vo))), (tf, .inl (y 3, 121, .inl fm)), (aq, .inr (3, [.ref u0, .ref u1, .ref u2, .ref u3, .ref u4, .int qn])), (u0, .inl (y 1, 256, .inl qs)), (u1, .inl (y 2, 256, .inr (.inl ql))), (u2, .inl (y 1, 256, .inl qt)), (u3, .inl (y 1, 256, .inl qw)), (u4, .inl (y 2, 256, .inr (.inl qv)))] → va_S A s.heap H locs → lv_has ls 4 [(0, .ref atb), (1, .int p1), (2, .int v4_0), (3, .int v4_1)] → W p l e (headSpec wsX7_childrenOf ({ frames := 2, cells := 0, slots := 0, locals := 42 } : Room)).room s m ([.ref atb, .int p1] : List Value).toArray below meth c H locs 0 0 (MQ below (Po D (fun _ : Unit => some (.int res)) (fun _ => [(atb, .inr (6, [.ref tp, .ref tw, .ref tv, .ref tf, .ref aq, .int sa, .long lo])), (tp, .inl (y 1, 121, .inl pa)), (tw, .inl (y 1, 121, .inl we)), (tv, .inl (y 2, 121, .inr (.inl vo))), (tf, .inl (y 3, 121, .inl fm)), (aq, .inr (3, [.ref u0, .ref u1, .ref u2, .ref u3, .ref u4, .int qn])), (u0, .inl (y 1, 256, .inl qs)), (u1, .inl (y 2, 256, .inr (.inl ql))), (u2, .inl (y 1, 256, .inl qt)), (u3, .inl (y 1, 256, .inl qw)), (u4, .inl (y 2, 256, .inr (.inl qv)))]) A) ([.ref atb, .int p1] : List Value).toArray s 0 0 A) (F0 m 4 ls []) := by
    intro n
    induction n with
    | zero =>
      intro v4_0 v4_1 H locs ls hf
      exact absurd (show (none : Option (Int32)) = some res from hf) (fun q => by cases q)
    | succ n ih4 =>
      intro v4_0 v4_1 H locs ls hf hP hD hS hl
      unfold fX7_childrenOf_4 at hf
      refine lv_iload_n hx hb dX7_childrenOf_4 rfl (lv_at hl 3 rfl) ?_
      refine lv_aload_n hx hb dX7_childrenOf_5 rfl (lv_at hl 0 rfl) ?_
      refine va_get (D := D) (ci := 6) (v := .int sa) (C := RX7) (T := TX7) (N := 7) hx hb hts iX7 hown hK hP 0 rfl rfl 5 (by decide) (hts (.fieldLink RX7 33 "SampleTracker$Table" "samples" "I") (by decide +kernel)) (fun _ h9 => h9) rfl dX7_childrenOf_6 ?_
      refine lv_icmp_gt (tgt := 35) hx hb dX7_childrenOf_9 (by decide) (fun c_1 => ?_) (fun c_1 => ?_)
      · have hf := ifp hf c_1
        refine lv_iload_n hx hb dX7_childrenOf_35 rfl (lv_at hl 2 rfl) ?_
        obtain rfl := Option.some.inj hf
        exact W.iret hx hb hr (fun t ht hW => ⟨⟨(), rfl, by rw [ht]; exact hP, hD⟩, hS.F ht⟩) hS.2.2 dX7_childrenOf_36
      · have hf := ifn hf c_1
        refine lv_iload_n hx hb dX7_childrenOf_12 rfl (lv_at hl 2 rfl) ?_
        refine lv_aload_n hx hb dX7_childrenOf_13 rfl (lv_at hl 0 rfl) ?_
        refine lv_iload_n hx hb dX7_childrenOf_14 rfl (lv_at hl 3 rfl) ?_
        obtain ⟨r_2, hc_3, hf⟩ := obd hf
        refine ct_V (As := [.int v4_1]) (rest := [.int v4_0]) (wr := []) (wn := [(atb, .inr (6, [.ref tp, .ref tw, .ref tv, .ref tf, .ref aq, .int sa, .long lo])), (tp, .inl (y 1, 121, .inl pa)), (tw, .inl (y 1, 121, .inl we)), (tv, .inl (y 2, 121, .inr (.inl vo))), (tf, .inl (y 3, 121, .inl fm)), (aq, .inr (3, [.ref u0, .ref u1, .ref u2, .ref u3, .ref u4, .int qn])), (u0, .inl (y 1, 256, .inl qs)), (u1, .inl (y 2, 256, .inr (.inl ql))), (u2, .inl (y 1, 256, .inl qt)), (u3, .inl (y 1, 256, .inl qw)), (u4, .inl (y 2, 256, .inr (.inl qv)))]) hfix (cX7_parentOf_ok l D y atb tp tw tv tf aq u0 u1 u2 u3 u4 pa we vo fm sa lo qs ql qt qw qv qn v4_1 _ hc_3) (cwV 1 hts gX7_childrenOf_X7_parentOf rfl rfl rfl (by decide +kernel) ⟨Nat.le_of_ble_eq_true rfl, Nat.le_of_ble_eq_true rfl⟩) E hP hD hS [0, 1, 2, 3, 4, 5, 6, 7, 8, 9, 10] [] [0, 1, 2, 3, 4, 5, 6, 7, 8, 9, 10] rfl rfl rfl rfl (by decide) rfl rfl 0 6 rfl rfl rfl hl.1 rfl (Nat.le_of_ble_eq_true rfl) dX7_childrenOf_15 ⟨Nat.zero_le _, Nat.zero_le _⟩ (fun H locs hP hD hS => ?_)
        refine W.eq (g2 := F0 m 18 ls [.int r_2, .int v4_0]) rfl ?_
        refine lv_iload_n hx hb dX7_childrenOf_18 rfl (lv_at hl 1 rfl) ?_
        refine lv_icmp_ne (tgt := 26) hx hb dX7_childrenOf_19 (by decide) (fun c_4 => ?_) (fun c_4 => ?_)
        · have hf := ifn hf c_4
          refine lv_iconst (v := (0 : Int32)) hx hb dX7_childrenOf_26 (by decide) ?_
          refine lv_iadd hx hb dX7_childrenOf_27 ?_
          refine lv_istore_n (lv' := [(2, .int (v4_0 + (0 : Int32))), (0, .ref atb), (1, .int p1), (3, .int v4_1)]) hx hb dX7_childrenOf_28 rfl hl (by decide) rfl (fun ls hl => ?_)
          refine lv_iinc (v := (v4_1 + (1 : Int32))) (lv' := [(3, .int (v4_1 + (1 : Int32))), (2, .int (v4_0 + (0 : Int32))), (0, .ref atb), (1, .int p1)]) hx hb dX7_childrenOf_29 hl (k := 3) rfl rfl (by decide) rfl (fun ls hl => ?_)
          refine lv_goto (tgt := 4) hx hb dX7_childrenOf_32 (by decide) ?_
          exact ih4 (v4_0 + (0 : Int32)) (v4_1 + (1 : Int32)) _ _ _ hf hP hD hS (lv_sub hl [2, 3, 1, 0] rfl)
        · have hf := ifp hf c_4
          refine lv_iconst (v := (1 : Int32)) hx hb dX7_childrenOf_22 (by decide) ?_
          refine lv_goto (tgt := 27) hx hb dX7_childrenOf_23 (by decide) ?_
          refine lv_iadd hx hb dX7_childrenOf_27 ?_
          refine lv_istore_n (lv' := [(2, .int (v4_0 + (1 : Int32))), (0, .ref atb), (1, .int p1), (3, .int v4_1)]) hx hb dX7_childrenOf_28 rfl hl (by decide) rfl (fun ls hl => ?_)
          refine lv_iinc (v := (v4_1 + (1 : Int32))) (lv' := [(3, .int (v4_1 + (1 : Int32))), (2, .int (v4_0 + (1 : Int32))), (0, .ref atb), (1, .int p1)]) hx hb dX7_childrenOf_29 hl (k := 3) rfl rfl (by decide) rfl (fun ls hl => ?_)
          refine lv_goto (tgt := 4) hx hb dX7_childrenOf_32 (by decide) ?_
          exact ih4 (v4_0 + (1 : Int32)) (v4_1 + (1 : Int32)) _ _ _ hf hP hD hS (lv_sub hl [2, 3, 1, 0] rfl)
  unfold fX7_childrenOf at hf
  refine lv_iconst (v := (0 : Int32)) hx hb dX7_childrenOf_0 (by decide) ?_
  refine lv_istore_n (lv' := [(2, .int (0 : Int32)), (0, .ref atb), (1, .int p1)]) hx hb dX7_childrenOf_1 rfl hl (by decide) rfl (fun ls hl => ?_)
  refine lv_iconst (v := (1 : Int32)) hx hb dX7_childrenOf_2 (by decide) ?_
  refine lv_istore_n (lv' := [(3, .int (1 : Int32)), (2, .int (0 : Int32)), (0, .ref atb), (1, .int p1)]) hx hb dX7_childrenOf_3 rfl hl (by decide) rfl (fun ls hl => ?_)
  exact hL4 FU (0 : Int32) (1 : Int32) _ _ _ hf hP hD hS (lv_sub hl [2, 3, 1, 0] rfl)

def fX7_stepsToOrigin_4 (pa : Nat → Int32) (sa : Int32) : Nat → Int32 → Int32 → Option (Int32)
  | 0, _, _ => none
  | n + 1, v4_0, v4_1 => (if (120 : Int32) ≤ v4_0 then some v4_0 else ((fX7_parentOf pa sa v4_1).bind fun r_2 => (if r_2 = 0 then some v4_0 else ((fX7_parentOf pa sa v4_1).bind fun r_5 => fX7_stepsToOrigin_4 pa sa n (v4_0 + (1 : Int32)) r_5))))

def fX7_stepsToOrigin (pa : Nat → Int32) (sa : Int32) (p1 : Int32) : Option (Int32) := fX7_stepsToOrigin_4 pa sa FU (0 : Int32) p1

set_option maxHeartbeats 4000000 in
set_option maxRecDepth 100000 in
theorem cX7_stepsToOrigin_ok (l : Launch) (D : va_G) (y : Nat → ClassId) (atb : Nat) (tp : Nat) (tw : Nat) (tv : Nat) (tf : Nat) (aq : Nat) (u0 : Nat) (u1 : Nat) (u2 : Nat) (u3 : Nat) (u4 : Nat) (pa : Nat → Int32) (we : Nat → Int32) (vo : Nat → Int64) (fm : Nat → Int32) (sa : Int32) (lo : Int64) (qs : Nat → Int32) (ql : Nat → Int64) (qt : Nat → Int32) (qw : Nat → Int32) (qv : Nat → Int64) (qn : Int32) (p1 : Int32) (res : Int32) (hf : fX7_stepsToOrigin pa sa p1 = some res) : CT l D y yX7_stepsToOrigin wsX7_stepsToOrigin ({ frames := 2, cells := 0, slots := 0, locals := 42 } : Room) [.ref atb, .int p1] [(atb, .inr (6, [.ref tp, .ref tw, .ref tv, .ref tf, .ref aq, .int sa, .long lo])), (tp, .inl (y 1, 121, .inl pa)), (tw, .inl (y 1, 121, .inl we)), (tv, .inl (y 2, 121, .inr (.inl vo))), (tf, .inl (y 3, 121, .inl fm)), (aq, .inr (3, [.ref u0, .ref u1, .ref u2, .ref u3, .ref u4, .int qn])), (u0, .inl (y 1, 256, .inl qs)), (u1, .inl (y 2, 256, .inr (.inl ql))), (u2, .inl (y 1, 256, .inl qt)), (u3, .inl (y 1, 256, .inl qw)), (u4, .inl (y 2, 256, .inr (.inl qv)))] (some (.int res)) [(atb, .inr (6, [.ref tp, .ref tw, .ref tv, .ref tf, .ref aq, .int sa, .long lo])), (tp, .inl (y 1, 121, .inl pa)), (tw, .inl (y 1, 121, .inl we)), (tv, .inl (y 2, 121, .inr (.inl vo))), (tf, .inl (y 3, 121, .inl fm)), (aq, .inr (3, [.ref u0, .ref u1, .ref u2, .ref u3, .ref u4, .int qn])), (u0, .inl (y 1, 256, .inl qs)), (u1, .inl (y 2, 256, .inr (.inl ql))), (u2, .inl (y 1, 256, .inl qt)), (u3, .inl (y 1, 256, .inl qw)), (u4, .inl (y 2, 256, .inr (.inl qv)))] := by
  intro sz
  refine Met.ofW (cc := cX7_stepsToOrigin) (maxL := 4) (ret := (some .int)) (by decide) rfl ?_
  intro p e s m args below meth c s₁ B hml hv
  obtain ⟨rfl, hsz, hP, hK, hD0, hst, hno⟩ := hv
  have hx := B.exec
  have hb := B.bytes
  have hr := B.returns
  have hts := atoms_spec (ws := wsX7_stepsToOrigin) B.pre
  have hown : s.vm.findClass RX7 = some m.cls := findClass_of_methodNamed B.named
  have hlocks := B.notSynchronized
  subst hsz
  have hD := hD0.self (sz := s.heap.size)
  generalize hAe : va_A [(atb, .inr (6, [.ref tp, .ref tw, .ref tv, .ref tf, .ref aq, .int sa, .long lo])), (tp, .inl (y 1, 121, .inl pa)), (tw, .inl (y 1, 121, .inl we)), (tv, .inl (y 2, 121, .inr (.inl vo))), (tf, .inl (y 3, 121, .inl fm)), (aq, .inr (3, [.ref u0, .ref u1, .ref u2, .ref u3, .ref u4, .int qn])), (u0, .inl (y 1, 256, .inl qs)), (u1, .inl (y 2, 256, .inr (.inl ql))), (u2, .inl (y 1, 256, .inl qt)), (u3, .inl (y 1, 256, .inl qw)), (u4, .inl (y 2, 256, .inr (.inl qv)))] s.heap.size = A at hD hst ⊢
  have hA : ∀ q : Nat, s.heap.size ≤ q → A q := fun q h => by rw [← hAe]; exact Or.inr h
  have hS : va_S A s.heap s.heap [] := va_S.rf
  have E : Ev D y A s := ⟨hK, hst, hno, hA⟩
  have hfix : CallFix p m c cX7_stepsToOrigin 4 s _ wsX7_stepsToOrigin RX7 := ⟨hx, hb, hml, hown, hts⟩
  have hP : va_P D vwCl [(atb, .inr (6, [.ref tp, .ref tw, .ref tv, .ref tf, .ref aq, .int sa, .long lo])), (tp, .inl (y 1, 121, .inl pa)), (tw, .inl (y 1, 121, .inl we)), (tv, .inl (y 2, 121, .inr (.inl vo))), (tf, .inl (y 3, 121, .inl fm)), (aq, .inr (3, [.ref u0, .ref u1, .ref u2, .ref u3, .ref u4, .int qn])), (u0, .inl (y 1, 256, .inl qs)), (u1, .inl (y 2, 256, .inr (.inl ql))), (u2, .inl (y 1, 256, .inl qt)), (u3, .inl (y 1, 256, .inl qw)), (u4, .inl (y 2, 256, .inr (.inl qv)))] s.heap := hP
  have hl := lv_entry ([.ref atb, .int p1]) (n := 4) (Nat.le_of_ble_eq_true rfl)
  rw [lg_entry_eq]
  generalize (lg_sl ([.ref atb, .int p1]) ++ List.replicate (4 - (lg_sl ([.ref atb, .int p1])).length) Slot.unset).toArray = ls at hl ⊢
  have hl : lv_has ls 4 [(0, .ref atb), (1, .int p1)] := hl
  have hL4 : ∀ (n : Nat) (v4_0 : Int32) (v4_1 : Int32) (H : Heap) (locs : List Loc) (ls : Array Slot), fX7_stepsToOrigin_4 pa sa n v4_0 v4_1 = some res → va_P D vwCl [(atb, .inr (6, [.ref tp, .ref tw, .ref tv, .ref tf, .ref aq, .int sa, .long lo])), (tp, .inl (y 1, 121, .inl pa)), (tw, .inl (y 1, 121, .inl we)), (tv, .inl (y 2, 121, .inr (.inl vo))), (tf, .inl (y 3, 121, .inl fm)), (aq, .inr (3, [.ref u0, .ref u1, .ref u2, .ref u3, .ref u4, .int qn])), (u0, .inl (y 1, 256, .inl qs)), (u1, .inl (y 2, 256, .inr (.inl ql))), (u2, .inl (y 1, 256, .inl qt)), (u3, .inl (y 1, 256, .inl qw)), (u4, .inl (y 2, 256, .inr (.inl qv)))] H → va_D A [(atb, .inr (6, [.ref tp, .ref tw, .ref tv, .ref tf, .ref aq, .int sa, .long lo])), (tp, .inl (y 1, 121, .inl pa)), (tw, .inl (y 1, 121, .inl we)), (tv, .inl (y 2, 121, .inr (.inl vo))), (tf, .inl (y 3, 121, .inl fm)), (aq, .inr (3, [.ref u0, .ref u1, .ref u2, .ref u3, .ref u4, .int qn])), (u0, .inl (y 1, 256, .inl qs)), (u1, .inl (y 2, 256, .inr (.inl ql))), (u2, .inl (y 1, 256, .inl qt)), (u3, .inl (y 1, 256, .inl qw)), (u4, .inl (y 2, 256, .inr (.inl qv)))] → va_S A s.heap H locs → lv_has ls 4 [(0, .ref atb), (1, .int p1), (2, .int v4_0), (3, .int v4_1)] → W p l e (headSpec wsX7_stepsToOrigin ({ frames := 2, cells := 0, slots := 0, locals := 42 } : Room)).room s m ([.ref atb, .int p1] : List Value).toArray below meth c H locs 0 0 (MQ below (Po D (fun _ : Unit => some (.int res)) (fun _ => [(atb, .inr (6, [.ref tp, .ref tw, .ref tv, .ref tf, .ref aq, .int sa, .long lo])), (tp, .inl (y 1, 121, .inl pa)), (tw, .inl (y 1, 121, .inl we)), (tv, .inl (y 2, 121, .inr (.inl vo))), (tf, .inl (y 3, 121, .inl fm)), (aq, .inr (3, [.ref u0, .ref u1, .ref u2, .ref u3, .ref u4, .int qn])), (u0, .inl (y 1, 256, .inl qs)), (u1, .inl (y 2, 256, .inr (.inl ql))), (u2, .inl (y 1, 256, .inl qt)), (u3, .inl (y 1, 256, .inl qw)), (u4, .inl (y 2, 256, .inr (.inl qv)))]) A) ([.ref atb, .int p1] : List Value).toArray s 0 0 A) (F0 m 4 ls []) := by
    intro n
    induction n with
    | zero =>
      intro v4_0 v4_1 H locs ls hf
      exact absurd (show (none : Option (Int32)) = some res from hf) (fun q => by cases q)
    | succ n ih4 =>
      intro v4_0 v4_1 H locs ls hf hP hD hS hl
      unfold fX7_stepsToOrigin_4 at hf
      refine lv_iload_n hx hb dX7_stepsToOrigin_4 rfl (lv_at hl 2 rfl) ?_
      refine lv_bipush (v := (120 : Int32)) hx hb dX7_stepsToOrigin_5 (by decide) ?_
      refine lv_icmp_ge (tgt := 30) hx hb dX7_stepsToOrigin_7 (by decide) (fun c_1 => ?_) (fun c_1 => ?_)
      · have hf := ifp hf c_1
        refine lv_iload_n hx hb dX7_stepsToOrigin_30 rfl (lv_at hl 2 rfl) ?_
        obtain rfl := Option.some.inj hf
        exact W.iret hx hb hr (fun t ht hW => ⟨⟨(), rfl, by rw [ht]; exact hP, hD⟩, hS.F ht⟩) hS.2.2 dX7_stepsToOrigin_31
      · have hf := ifn hf c_1
        refine lv_aload_n hx hb dX7_stepsToOrigin_10 rfl (lv_at hl 0 rfl) ?_
        refine lv_iload_n hx hb dX7_stepsToOrigin_11 rfl (lv_at hl 3 rfl) ?_
        obtain ⟨r_2, hc_3, hf⟩ := obd hf
        refine ct_V (As := [.int v4_1]) (rest := []) (wr := []) (wn := [(atb, .inr (6, [.ref tp, .ref tw, .ref tv, .ref tf, .ref aq, .int sa, .long lo])), (tp, .inl (y 1, 121, .inl pa)), (tw, .inl (y 1, 121, .inl we)), (tv, .inl (y 2, 121, .inr (.inl vo))), (tf, .inl (y 3, 121, .inl fm)), (aq, .inr (3, [.ref u0, .ref u1, .ref u2, .ref u3, .ref u4, .int qn])), (u0, .inl (y 1, 256, .inl qs)), (u1, .inl (y 2, 256, .inr (.inl ql))), (u2, .inl (y 1, 256, .inl qt)), (u3, .inl (y 1, 256, .inl qw)), (u4, .inl (y 2, 256, .inr (.inl qv)))]) hfix (cX7_parentOf_ok l D y atb tp tw tv tf aq u0 u1 u2 u3 u4 pa we vo fm sa lo qs ql qt qw qv qn v4_1 _ hc_3) (cwV 1 hts gX7_stepsToOrigin_X7_parentOf rfl rfl rfl (by decide +kernel) ⟨Nat.le_of_ble_eq_true rfl, Nat.le_of_ble_eq_true rfl⟩) E hP hD hS [0, 1, 2, 3, 4, 5, 6, 7, 8, 9, 10] [] [0, 1, 2, 3, 4, 5, 6, 7, 8, 9, 10] rfl rfl rfl rfl (by decide) rfl rfl 0 6 rfl rfl rfl hl.1 rfl (Nat.le_of_ble_eq_true rfl) dX7_stepsToOrigin_12 ⟨Nat.zero_le _, Nat.zero_le _⟩ (fun H locs hP hD hS => ?_)
        refine W.eq (g2 := F0 m 15 ls [.int r_2]) rfl ?_
        refine lv_if_eq (tgt := 30) hx hb dX7_stepsToOrigin_15 (by decide) (fun c_4 => ?_) (fun c_4 => ?_)
        · have hf := ifp hf c_4
          refine lv_iload_n hx hb dX7_stepsToOrigin_30 rfl (lv_at hl 2 rfl) ?_
          obtain rfl := Option.some.inj hf
          exact W.iret hx hb hr (fun t ht hW => ⟨⟨(), rfl, by rw [ht]; exact hP, hD⟩, hS.F ht⟩) hS.2.2 dX7_stepsToOrigin_31
        · have hf := ifn hf c_4
          refine lv_aload_n hx hb dX7_stepsToOrigin_18 rfl (lv_at hl 0 rfl) ?_
          refine lv_iload_n hx hb dX7_stepsToOrigin_19 rfl (lv_at hl 3 rfl) ?_
          obtain ⟨r_5, hc_6, hf⟩ := obd hf
          refine ct_V (As := [.int v4_1]) (rest := []) (wr := []) (wn := [(atb, .inr (6, [.ref tp, .ref tw, .ref tv, .ref tf, .ref aq, .int sa, .long lo])), (tp, .inl (y 1, 121, .inl pa)), (tw, .inl (y 1, 121, .inl we)), (tv, .inl (y 2, 121, .inr (.inl vo))), (tf, .inl (y 3, 121, .inl fm)), (aq, .inr (3, [.ref u0, .ref u1, .ref u2, .ref u3, .ref u4, .int qn])), (u0, .inl (y 1, 256, .inl qs)), (u1, .inl (y 2, 256, .inr (.inl ql))), (u2, .inl (y 1, 256, .inl qt)), (u3, .inl (y 1, 256, .inl qw)), (u4, .inl (y 2, 256, .inr (.inl qv)))]) hfix (cX7_parentOf_ok l D y atb tp tw tv tf aq u0 u1 u2 u3 u4 pa we vo fm sa lo qs ql qt qw qv qn v4_1 _ hc_6) (cwV 1 hts gX7_stepsToOrigin_X7_parentOf rfl rfl rfl (by decide +kernel) ⟨Nat.le_of_ble_eq_true rfl, Nat.le_of_ble_eq_true rfl⟩) E hP hD hS [0, 1, 2, 3, 4, 5, 6, 7, 8, 9, 10] [] [0, 1, 2, 3, 4, 5, 6, 7, 8, 9, 10] rfl rfl rfl rfl (by decide) rfl rfl 0 6 rfl rfl rfl hl.1 rfl (Nat.le_of_ble_eq_true rfl) dX7_stepsToOrigin_20 ⟨Nat.zero_le _, Nat.zero_le _⟩ (fun H locs hP hD hS => ?_)
          refine W.eq (g2 := F0 m 23 ls [.int r_5]) rfl ?_
          refine lv_istore_n (lv' := [(3, .int r_5), (0, .ref atb), (1, .int p1), (2, .int v4_0)]) hx hb dX7_stepsToOrigin_23 rfl hl (by decide) rfl (fun ls hl => ?_)
          refine lv_iinc (v := (v4_0 + (1 : Int32))) (lv' := [(2, .int (v4_0 + (1 : Int32))), (3, .int r_5), (0, .ref atb), (1, .int p1)]) hx hb dX7_stepsToOrigin_24 hl (k := 3) rfl rfl (by decide) rfl (fun ls hl => ?_)
          refine lv_goto (tgt := 4) hx hb dX7_stepsToOrigin_27 (by decide) ?_
          exact ih4 (v4_0 + (1 : Int32)) r_5 _ _ _ hf hP hD hS (lv_sub hl [2, 3, 0, 1] rfl)
  unfold fX7_stepsToOrigin at hf
  refine lv_iconst (v := (0 : Int32)) hx hb dX7_stepsToOrigin_0 (by decide) ?_
  refine lv_istore_n (lv' := [(2, .int (0 : Int32)), (0, .ref atb), (1, .int p1)]) hx hb dX7_stepsToOrigin_1 rfl hl (by decide) rfl (fun ls hl => ?_)
  refine lv_iload_n hx hb dX7_stepsToOrigin_2 rfl (lv_at hl 2 rfl) ?_
  refine lv_istore_n (lv' := [(3, .int p1), (2, .int (0 : Int32)), (0, .ref atb), (1, .int p1)]) hx hb dX7_stepsToOrigin_3 rfl hl (by decide) rfl (fun ls hl => ?_)
  exact hL4 FU (0 : Int32) p1 _ _ _ hf hP hD hS (lv_sub hl [2, 3, 1, 0] rfl)

def fX7_originOf_8 (pa : Nat → Int32) (sa : Int32) : Nat → Int32 → Int32 → Option (Int32)
  | 0, _, _ => none
  | n + 1, v8_0, v8_1 => (if v8_1 ≤ 0 then some v8_0 else ((fX7_parentOf pa sa v8_0).bind fun r_2 => fX7_originOf_8 pa sa n r_2 (v8_1 + (-1 : Int32))))

def fX7_originOf (pa : Nat → Int32) (sa : Int32) (p1 : Int32) : Option (Int32) := ((fX7_stepsToOrigin pa sa p1).bind fun r_4 => fX7_originOf_8 pa sa FU p1 r_4)

set_option maxHeartbeats 4000000 in
set_option maxRecDepth 100000 in
theorem cX7_originOf_ok (l : Launch) (D : va_G) (y : Nat → ClassId) (atb : Nat) (tp : Nat) (tw : Nat) (tv : Nat) (tf : Nat) (aq : Nat) (u0 : Nat) (u1 : Nat) (u2 : Nat) (u3 : Nat) (u4 : Nat) (pa : Nat → Int32) (we : Nat → Int32) (vo : Nat → Int64) (fm : Nat → Int32) (sa : Int32) (lo : Int64) (qs : Nat → Int32) (ql : Nat → Int64) (qt : Nat → Int32) (qw : Nat → Int32) (qv : Nat → Int64) (qn : Int32) (p1 : Int32) (res : Int32) (hf : fX7_originOf pa sa p1 = some res) : CT l D y yX7_originOf wsX7_originOf ({ frames := 3, cells := 0, slots := 0, locals := 65 } : Room) [.ref atb, .int p1] [(atb, .inr (6, [.ref tp, .ref tw, .ref tv, .ref tf, .ref aq, .int sa, .long lo])), (tp, .inl (y 1, 121, .inl pa)), (tw, .inl (y 1, 121, .inl we)), (tv, .inl (y 2, 121, .inr (.inl vo))), (tf, .inl (y 3, 121, .inl fm)), (aq, .inr (3, [.ref u0, .ref u1, .ref u2, .ref u3, .ref u4, .int qn])), (u0, .inl (y 1, 256, .inl qs)), (u1, .inl (y 2, 256, .inr (.inl ql))), (u2, .inl (y 1, 256, .inl qt)), (u3, .inl (y 1, 256, .inl qw)), (u4, .inl (y 2, 256, .inr (.inl qv)))] (some (.int res)) [(atb, .inr (6, [.ref tp, .ref tw, .ref tv, .ref tf, .ref aq, .int sa, .long lo])), (tp, .inl (y 1, 121, .inl pa)), (tw, .inl (y 1, 121, .inl we)), (tv, .inl (y 2, 121, .inr (.inl vo))), (tf, .inl (y 3, 121, .inl fm)), (aq, .inr (3, [.ref u0, .ref u1, .ref u2, .ref u3, .ref u4, .int qn])), (u0, .inl (y 1, 256, .inl qs)), (u1, .inl (y 2, 256, .inr (.inl ql))), (u2, .inl (y 1, 256, .inl qt)), (u3, .inl (y 1, 256, .inl qw)), (u4, .inl (y 2, 256, .inr (.inl qv)))] := by
  intro sz
  refine Met.ofW (cc := cX7_originOf) (maxL := 4) (ret := (some .int)) (by decide) rfl ?_
  intro p e s m args below meth c s₁ B hml hv
  obtain ⟨rfl, hsz, hP, hK, hD0, hst, hno⟩ := hv
  have hx := B.exec
  have hb := B.bytes
  have hr := B.returns
  have hts := atoms_spec (ws := wsX7_originOf) B.pre
  have hown : s.vm.findClass RX7 = some m.cls := findClass_of_methodNamed B.named
  have hlocks := B.notSynchronized
  subst hsz
  have hD := hD0.self (sz := s.heap.size)
  generalize hAe : va_A [(atb, .inr (6, [.ref tp, .ref tw, .ref tv, .ref tf, .ref aq, .int sa, .long lo])), (tp, .inl (y 1, 121, .inl pa)), (tw, .inl (y 1, 121, .inl we)), (tv, .inl (y 2, 121, .inr (.inl vo))), (tf, .inl (y 3, 121, .inl fm)), (aq, .inr (3, [.ref u0, .ref u1, .ref u2, .ref u3, .ref u4, .int qn])), (u0, .inl (y 1, 256, .inl qs)), (u1, .inl (y 2, 256, .inr (.inl ql))), (u2, .inl (y 1, 256, .inl qt)), (u3, .inl (y 1, 256, .inl qw)), (u4, .inl (y 2, 256, .inr (.inl qv)))] s.heap.size = A at hD hst ⊢
  have hA : ∀ q : Nat, s.heap.size ≤ q → A q := fun q h => by rw [← hAe]; exact Or.inr h
  have hS : va_S A s.heap s.heap [] := va_S.rf
  have E : Ev D y A s := ⟨hK, hst, hno, hA⟩
  have hfix : CallFix p m c cX7_originOf 4 s _ wsX7_originOf RX7 := ⟨hx, hb, hml, hown, hts⟩
  have hP : va_P D vwCl [(atb, .inr (6, [.ref tp, .ref tw, .ref tv, .ref tf, .ref aq, .int sa, .long lo])), (tp, .inl (y 1, 121, .inl pa)), (tw, .inl (y 1, 121, .inl we)), (tv, .inl (y 2, 121, .inr (.inl vo))), (tf, .inl (y 3, 121, .inl fm)), (aq, .inr (3, [.ref u0, .ref u1, .ref u2, .ref u3, .ref u4, .int qn])), (u0, .inl (y 1, 256, .inl qs)), (u1, .inl (y 2, 256, .inr (.inl ql))), (u2, .inl (y 1, 256, .inl qt)), (u3, .inl (y 1, 256, .inl qw)), (u4, .inl (y 2, 256, .inr (.inl qv)))] s.heap := hP
  have hl := lv_entry ([.ref atb, .int p1]) (n := 4) (Nat.le_of_ble_eq_true rfl)
  rw [lg_entry_eq]
  generalize (lg_sl ([.ref atb, .int p1]) ++ List.replicate (4 - (lg_sl ([.ref atb, .int p1])).length) Slot.unset).toArray = ls at hl ⊢
  have hl : lv_has ls 4 [(0, .ref atb), (1, .int p1)] := hl
  have hL8 : ∀ (n : Nat) (v8_0 : Int32) (v8_1 : Int32) (H : Heap) (locs : List Loc) (ls : Array Slot), fX7_originOf_8 pa sa n v8_0 v8_1 = some res → va_P D vwCl [(atb, .inr (6, [.ref tp, .ref tw, .ref tv, .ref tf, .ref aq, .int sa, .long lo])), (tp, .inl (y 1, 121, .inl pa)), (tw, .inl (y 1, 121, .inl we)), (tv, .inl (y 2, 121, .inr (.inl vo))), (tf, .inl (y 3, 121, .inl fm)), (aq, .inr (3, [.ref u0, .ref u1, .ref u2, .ref u3, .ref u4, .int qn])), (u0, .inl (y 1, 256, .inl qs)), (u1, .inl (y 2, 256, .inr (.inl ql))), (u2, .inl (y 1, 256, .inl qt)), (u3, .inl (y 1, 256, .inl qw)), (u4, .inl (y 2, 256, .inr (.inl qv)))] H → va_D A [(atb, .inr (6, [.ref tp, .ref tw, .ref tv, .ref tf, .ref aq, .int sa, .long lo])), (tp, .inl (y 1, 121, .inl pa)), (tw, .inl (y 1, 121, .inl we)), (tv, .inl (y 2, 121, .inr (.inl vo))), (tf, .inl (y 3, 121, .inl fm)), (aq, .inr (3, [.ref u0, .ref u1, .ref u2, .ref u3, .ref u4, .int qn])), (u0, .inl (y 1, 256, .inl qs)), (u1, .inl (y 2, 256, .inr (.inl ql))), (u2, .inl (y 1, 256, .inl qt)), (u3, .inl (y 1, 256, .inl qw)), (u4, .inl (y 2, 256, .inr (.inl qv)))] → va_S A s.heap H locs → lv_has ls 4 [(0, .ref atb), (1, .int p1), (2, .int v8_0), (3, .int v8_1)] → W p l e (headSpec wsX7_originOf ({ frames := 3, cells := 0, slots := 0, locals := 65 } : Room)).room s m ([.ref atb, .int p1] : List Value).toArray below meth c H locs 0 0 (MQ below (Po D (fun _ : Unit => some (.int res)) (fun _ => [(atb, .inr (6, [.ref tp, .ref tw, .ref tv, .ref tf, .ref aq, .int sa, .long lo])), (tp, .inl (y 1, 121, .inl pa)), (tw, .inl (y 1, 121, .inl we)), (tv, .inl (y 2, 121, .inr (.inl vo))), (tf, .inl (y 3, 121, .inl fm)), (aq, .inr (3, [.ref u0, .ref u1, .ref u2, .ref u3, .ref u4, .int qn])), (u0, .inl (y 1, 256, .inl qs)), (u1, .inl (y 2, 256, .inr (.inl ql))), (u2, .inl (y 1, 256, .inl qt)), (u3, .inl (y 1, 256, .inl qw)), (u4, .inl (y 2, 256, .inr (.inl qv)))]) A) ([.ref atb, .int p1] : List Value).toArray s 0 0 A) (F0 m 8 ls []) := by
    intro n
    induction n with
    | zero =>
      intro v8_0 v8_1 H locs ls hf
      exact absurd (show (none : Option (Int32)) = some res from hf) (fun q => by cases q)
    | succ n ih8 =>
      intro v8_0 v8_1 H locs ls hf hP hD hS hl
      unfold fX7_originOf_8 at hf
      refine lv_iload_n hx hb dX7_originOf_8 rfl (lv_at hl 3 rfl) ?_
      refine lv_if_le (tgt := 24) hx hb dX7_originOf_9 (by decide) (fun c_1 => ?_) (fun c_1 => ?_)
      · have hf := ifp hf c_1
        refine lv_iload_n hx hb dX7_originOf_24 rfl (lv_at hl 2 rfl) ?_
        obtain rfl := Option.some.inj hf
        exact W.iret hx hb hr (fun t ht hW => ⟨⟨(), rfl, by rw [ht]; exact hP, hD⟩, hS.F ht⟩) hS.2.2 dX7_originOf_25
      · have hf := ifn hf c_1
        refine lv_aload_n hx hb dX7_originOf_12 rfl (lv_at hl 0 rfl) ?_
        refine lv_iload_n hx hb dX7_originOf_13 rfl (lv_at hl 2 rfl) ?_
        obtain ⟨r_2, hc_3, hf⟩ := obd hf
        refine ct_V (As := [.int v8_0]) (rest := []) (wr := []) (wn := [(atb, .inr (6, [.ref tp, .ref tw, .ref tv, .ref tf, .ref aq, .int sa, .long lo])), (tp, .inl (y 1, 121, .inl pa)), (tw, .inl (y 1, 121, .inl we)), (tv, .inl (y 2, 121, .inr (.inl vo))), (tf, .inl (y 3, 121, .inl fm)), (aq, .inr (3, [.ref u0, .ref u1, .ref u2, .ref u3, .ref u4, .int qn])), (u0, .inl (y 1, 256, .inl qs)), (u1, .inl (y 2, 256, .inr (.inl ql))), (u2, .inl (y 1, 256, .inl qt)), (u3, .inl (y 1, 256, .inl qw)), (u4, .inl (y 2, 256, .inr (.inl qv)))]) hfix (cX7_parentOf_ok l D y atb tp tw tv tf aq u0 u1 u2 u3 u4 pa we vo fm sa lo qs ql qt qw qv qn v8_0 _ hc_3) (cwV 1 hts gX7_originOf_X7_parentOf rfl rfl rfl (by decide +kernel) ⟨Nat.le_of_ble_eq_true rfl, Nat.le_of_ble_eq_true rfl⟩) E hP hD hS [0, 1, 2, 3, 4, 5, 6, 7, 8, 9, 10] [] [0, 1, 2, 3, 4, 5, 6, 7, 8, 9, 10] rfl rfl rfl rfl (by decide) rfl rfl 0 6 rfl rfl rfl hl.1 rfl (Nat.le_of_ble_eq_true rfl) dX7_originOf_14 ⟨Nat.zero_le _, Nat.zero_le _⟩ (fun H locs hP hD hS => ?_)
        refine W.eq (g2 := F0 m 17 ls [.int r_2]) rfl ?_
        refine lv_istore_n (lv' := [(2, .int r_2), (0, .ref atb), (1, .int p1), (3, .int v8_1)]) hx hb dX7_originOf_17 rfl hl (by decide) rfl (fun ls hl => ?_)
        refine lv_iinc (v := (v8_1 + (-1 : Int32))) (lv' := [(3, .int (v8_1 + (-1 : Int32))), (2, .int r_2), (0, .ref atb), (1, .int p1)]) hx hb dX7_originOf_18 hl (k := 3) rfl rfl (by decide) rfl (fun ls hl => ?_)
        refine lv_goto (tgt := 8) hx hb dX7_originOf_21 (by decide) ?_
        exact ih8 r_2 (v8_1 + (-1 : Int32)) _ _ _ hf hP hD hS (lv_sub hl [2, 3, 1, 0] rfl)
  unfold fX7_originOf at hf
  refine lv_iload_n hx hb dX7_originOf_0 rfl (lv_at hl 1 rfl) ?_
  refine lv_istore_n (lv' := [(2, .int p1), (0, .ref atb), (1, .int p1)]) hx hb dX7_originOf_1 rfl hl (by decide) rfl (fun ls hl => ?_)
  refine lv_aload_n hx hb dX7_originOf_2 rfl (lv_at hl 1 rfl) ?_
  refine lv_iload_n hx hb dX7_originOf_3 rfl (lv_at hl 2 rfl) ?_
  obtain ⟨r_4, hc_5, hf⟩ := obd hf
  refine ct_V (As := [.int p1]) (rest := []) (wr := []) (wn := [(atb, .inr (6, [.ref tp, .ref tw, .ref tv, .ref tf, .ref aq, .int sa, .long lo])), (tp, .inl (y 1, 121, .inl pa)), (tw, .inl (y 1, 121, .inl we)), (tv, .inl (y 2, 121, .inr (.inl vo))), (tf, .inl (y 3, 121, .inl fm)), (aq, .inr (3, [.ref u0, .ref u1, .ref u2, .ref u3, .ref u4, .int qn])), (u0, .inl (y 1, 256, .inl qs)), (u1, .inl (y 2, 256, .inr (.inl ql))), (u2, .inl (y 1, 256, .inl qt)), (u3, .inl (y 1, 256, .inl qw)), (u4, .inl (y 2, 256, .inr (.inl qv)))]) hfix (cX7_stepsToOrigin_ok l D y atb tp tw tv tf aq u0 u1 u2 u3 u4 pa we vo fm sa lo qs ql qt qw qv qn p1 _ hc_5) (cwV 1 hts gX7_originOf_X7_stepsToOrigin rfl rfl rfl (by decide +kernel) ⟨Nat.le_of_ble_eq_true rfl, Nat.le_of_ble_eq_true rfl⟩) E hP hD hS [0, 1, 2, 3, 4, 5, 6, 7, 8, 9, 10] [] [0, 1, 2, 3, 4, 5, 6, 7, 8, 9, 10] rfl rfl rfl rfl (by decide) rfl rfl 0 6 rfl rfl rfl hl.1 rfl (Nat.le_of_ble_eq_true rfl) dX7_originOf_4 ⟨Nat.zero_le _, Nat.zero_le _⟩ (fun H locs hP hD hS => ?_)
  refine W.eq (g2 := F0 m 7 ls [.int r_4]) rfl ?_
  refine lv_istore_n (lv' := [(3, .int r_4), (2, .int p1), (0, .ref atb), (1, .int p1)]) hx hb dX7_originOf_7 rfl hl (by decide) rfl (fun ls hl => ?_)
  exact hL8 FU p1 r_4 _ _ _ hf hP hD hS (lv_sub hl [2, 3, 1, 0] rfl)

def fX7_liveVolume_4 (vo : Nat → Int64) (sa : Int32) : Nat → Int64 → Int32 → Option (Int64)
  | 0, _, _ => none
  | n + 1, v4_0, v4_1 => (if sa < v4_1 then some v4_0 else ((fX7_volumeOf vo sa v4_1).bind fun r_2 => fX7_liveVolume_4 vo sa n (v4_0 + r_2) (v4_1 + (1 : Int32))))

def fX7_liveVolume (vo : Nat → Int64) (sa : Int32) : Option (Int64) := fX7_liveVolume_4 vo sa FU (0 : Int64) (1 : Int32)

set_option maxHeartbeats 4000000 in
set_option maxRecDepth 100000 in
theorem cX7_liveVolume_ok (l : Launch) (D : va_G) (y : Nat → ClassId) (atb : Nat) (tp : Nat) (tw : Nat) (tv : Nat) (tf : Nat) (aq : Nat) (u0 : Nat) (u1 : Nat) (u2 : Nat) (u3 : Nat) (u4 : Nat) (pa : Nat → Int32) (we : Nat → Int32) (vo : Nat → Int64) (fm : Nat → Int32) (sa : Int32) (lo : Int64) (qs : Nat → Int32) (ql : Nat → Int64) (qt : Nat → Int32) (qw : Nat → Int32) (qv : Nat → Int64) (qn : Int32) (res : Int64) (hf : fX7_liveVolume vo sa = some res) : CT l D y yX7_liveVolume wsX7_liveVolume ({ frames := 2, cells := 0, slots := 0, locals := 42 } : Room) [.ref atb] [(atb, .inr (6, [.ref tp, .ref tw, .ref tv, .ref tf, .ref aq, .int sa, .long lo])), (tp, .inl (y 1, 121, .inl pa)), (tw, .inl (y 1, 121, .inl we)), (tv, .inl (y 2, 121, .inr (.inl vo))), (tf, .inl (y 3, 121, .inl fm)), (aq, .inr (3, [.ref u0, .ref u1, .ref u2, .ref u3, .ref u4, .int qn])), (u0, .inl (y 1, 256, .inl qs)), (u1, .inl (y 2, 256, .inr (.inl ql))), (u2, .inl (y 1, 256, .inl qt)), (u3, .inl (y 1, 256, .inl qw)), (u4, .inl (y 2, 256, .inr (.inl qv)))] (some (.long res)) [(atb, .inr (6, [.ref tp, .ref tw, .ref tv, .ref tf, .ref aq, .int sa, .long lo])), (tp, .inl (y 1, 121, .inl pa)), (tw, .inl (y 1, 121, .inl we)), (tv, .inl (y 2, 121, .inr (.inl vo))), (tf, .inl (y 3, 121, .inl fm)), (aq, .inr (3, [.ref u0, .ref u1, .ref u2, .ref u3, .ref u4, .int qn])), (u0, .inl (y 1, 256, .inl qs)), (u1, .inl (y 2, 256, .inr (.inl ql))), (u2, .inl (y 1, 256, .inl qt)), (u3, .inl (y 1, 256, .inl qw)), (u4, .inl (y 2, 256, .inr (.inl qv)))] := by
  intro sz
  refine Met.ofW (cc := cX7_liveVolume) (maxL := 4) (ret := (some .long)) (by decide) rfl ?_
  intro p e s m args below meth c s₁ B hml hv
  obtain ⟨rfl, hsz, hP, hK, hD0, hst, hno⟩ := hv
  have hx := B.exec
  have hb := B.bytes
  have hr := B.returns
  have hts := atoms_spec (ws := wsX7_liveVolume) B.pre
  have hown : s.vm.findClass RX7 = some m.cls := findClass_of_methodNamed B.named
  have hlocks := B.notSynchronized
  subst hsz
  have hD := hD0.self (sz := s.heap.size)
  generalize hAe : va_A [(atb, .inr (6, [.ref tp, .ref tw, .ref tv, .ref tf, .ref aq, .int sa, .long lo])), (tp, .inl (y 1, 121, .inl pa)), (tw, .inl (y 1, 121, .inl we)), (tv, .inl (y 2, 121, .inr (.inl vo))), (tf, .inl (y 3, 121, .inl fm)), (aq, .inr (3, [.ref u0, .ref u1, .ref u2, .ref u3, .ref u4, .int qn])), (u0, .inl (y 1, 256, .inl qs)), (u1, .inl (y 2, 256, .inr (.inl ql))), (u2, .inl (y 1, 256, .inl qt)), (u3, .inl (y 1, 256, .inl qw)), (u4, .inl (y 2, 256, .inr (.inl qv)))] s.heap.size = A at hD hst ⊢
  have hA : ∀ q : Nat, s.heap.size ≤ q → A q := fun q h => by rw [← hAe]; exact Or.inr h
  have hS : va_S A s.heap s.heap [] := va_S.rf
  have E : Ev D y A s := ⟨hK, hst, hno, hA⟩
  have hfix : CallFix p m c cX7_liveVolume 4 s _ wsX7_liveVolume RX7 := ⟨hx, hb, hml, hown, hts⟩
  have hP : va_P D vwCl [(atb, .inr (6, [.ref tp, .ref tw, .ref tv, .ref tf, .ref aq, .int sa, .long lo])), (tp, .inl (y 1, 121, .inl pa)), (tw, .inl (y 1, 121, .inl we)), (tv, .inl (y 2, 121, .inr (.inl vo))), (tf, .inl (y 3, 121, .inl fm)), (aq, .inr (3, [.ref u0, .ref u1, .ref u2, .ref u3, .ref u4, .int qn])), (u0, .inl (y 1, 256, .inl qs)), (u1, .inl (y 2, 256, .inr (.inl ql))), (u2, .inl (y 1, 256, .inl qt)), (u3, .inl (y 1, 256, .inl qw)), (u4, .inl (y 2, 256, .inr (.inl qv)))] s.heap := hP
  have iX7 : ∀ w ∈ wsX70, w ∈ wsX7_liveVolume := by decide +kernel
  have hl := lv_entry ([.ref atb]) (n := 4) (Nat.le_of_ble_eq_true rfl)
  rw [lg_entry_eq]
  generalize (lg_sl ([.ref atb]) ++ List.replicate (4 - (lg_sl ([.ref atb])).length) Slot.unset).toArray = ls at hl ⊢
  have hl : lv_has ls 4 [(0, .ref atb)] := hl
  have hL4 : ∀ (n : Nat) (v4_0 : Int64) (v4_1 : Int32) (H : Heap) (locs : List Loc) (ls : Array Slot), fX7_liveVolume_4 vo sa n v4_0 v4_1 = some res → va_P D vwCl [(atb, .inr (6, [.ref tp, .ref tw, .ref tv, .ref tf, .ref aq, .int sa, .long lo])), (tp, .inl (y 1, 121, .inl pa)), (tw, .inl (y 1, 121, .inl we)), (tv, .inl (y 2, 121, .inr (.inl vo))), (tf, .inl (y 3, 121, .inl fm)), (aq, .inr (3, [.ref u0, .ref u1, .ref u2, .ref u3, .ref u4, .int qn])), (u0, .inl (y 1, 256, .inl qs)), (u1, .inl (y 2, 256, .inr (.inl ql))), (u2, .inl (y 1, 256, .inl qt)), (u3, .inl (y 1, 256, .inl qw)), (u4, .inl (y 2, 256, .inr (.inl qv)))] H → va_D A [(atb, .inr (6, [.ref tp, .ref tw, .ref tv, .ref tf, .ref aq, .int sa, .long lo])), (tp, .inl (y 1, 121, .inl pa)), (tw, .inl (y 1, 121, .inl we)), (tv, .inl (y 2, 121, .inr (.inl vo))), (tf, .inl (y 3, 121, .inl fm)), (aq, .inr (3, [.ref u0, .ref u1, .ref u2, .ref u3, .ref u4, .int qn])), (u0, .inl (y 1, 256, .inl qs)), (u1, .inl (y 2, 256, .inr (.inl ql))), (u2, .inl (y 1, 256, .inl qt)), (u3, .inl (y 1, 256, .inl qw)), (u4, .inl (y 2, 256, .inr (.inl qv)))] → va_S A s.heap H locs → lv_has ls 4 [(0, .ref atb), (1, .long v4_0), (3, .int v4_1)] → W p l e (headSpec wsX7_liveVolume ({ frames := 2, cells := 0, slots := 0, locals := 42 } : Room)).room s m ([.ref atb] : List Value).toArray below meth c H locs 0 0 (MQ below (Po D (fun _ : Unit => some (.long res)) (fun _ => [(atb, .inr (6, [.ref tp, .ref tw, .ref tv, .ref tf, .ref aq, .int sa, .long lo])), (tp, .inl (y 1, 121, .inl pa)), (tw, .inl (y 1, 121, .inl we)), (tv, .inl (y 2, 121, .inr (.inl vo))), (tf, .inl (y 3, 121, .inl fm)), (aq, .inr (3, [.ref u0, .ref u1, .ref u2, .ref u3, .ref u4, .int qn])), (u0, .inl (y 1, 256, .inl qs)), (u1, .inl (y 2, 256, .inr (.inl ql))), (u2, .inl (y 1, 256, .inl qt)), (u3, .inl (y 1, 256, .inl qw)), (u4, .inl (y 2, 256, .inr (.inl qv)))]) A) ([.ref atb] : List Value).toArray s 0 0 A) (F0 m 4 ls []) := by
    intro n
    induction n with
    | zero =>
      intro v4_0 v4_1 H locs ls hf
      exact absurd (show (none : Option (Int64)) = some res from hf) (fun q => by cases q)
    | succ n ih4 =>
      intro v4_0 v4_1 H locs ls hf hP hD hS hl
      unfold fX7_liveVolume_4 at hf
      refine lv_iload_n hx hb dX7_liveVolume_4 rfl (lv_at hl 2 rfl) ?_
      refine lv_aload_n hx hb dX7_liveVolume_5 rfl (lv_at hl 0 rfl) ?_
      refine va_get (D := D) (ci := 6) (v := .int sa) (C := RX7) (T := TX7) (N := 7) hx hb hts iX7 hown hK hP 0 rfl rfl 5 (by decide) (hts (.fieldLink RX7 33 "SampleTracker$Table" "samples" "I") (by decide +kernel)) (fun _ h9 => h9) rfl dX7_liveVolume_6 ?_
      refine lv_icmp_gt (tgt := 26) hx hb dX7_liveVolume_9 (by decide) (fun c_1 => ?_) (fun c_1 => ?_)
      · have hf := ifp hf c_1
        refine lv_lload_n hx hb dX7_liveVolume_26 rfl (lv_at hl 1 rfl) ?_
        obtain rfl := Option.some.inj hf
        exact W.lret hx hb hr (fun t ht hW => ⟨⟨(), rfl, by rw [ht]; exact hP, hD⟩, hS.F ht⟩) hS.2.2 dX7_liveVolume_27
      · have hf := ifn hf c_1
        refine lv_lload_n hx hb dX7_liveVolume_12 rfl (lv_at hl 1 rfl) ?_
        refine lv_aload_n hx hb dX7_liveVolume_13 rfl (lv_at hl 0 rfl) ?_
        refine lv_iload_n hx hb dX7_liveVolume_14 rfl (lv_at hl 2 rfl) ?_
        obtain ⟨r_2, hc_3, hf⟩ := obd hf
        refine ct_V (As := [.int v4_1]) (rest := [.long v4_0]) (wr := []) (wn := [(atb, .inr (6, [.ref tp, .ref tw, .ref tv, .ref tf, .ref aq, .int sa, .long lo])), (tp, .inl (y 1, 121, .inl pa)), (tw, .inl (y 1, 121, .inl we)), (tv, .inl (y 2, 121, .inr (.inl vo))), (tf, .inl (y 3, 121, .inl fm)), (aq, .inr (3, [.ref u0, .ref u1, .ref u2, .ref u3, .ref u4, .int qn])), (u0, .inl (y 1, 256, .inl qs)), (u1, .inl (y 2, 256, .inr (.inl ql))), (u2, .inl (y 1, 256, .inl qt)), (u3, .inl (y 1, 256, .inl qw)), (u4, .inl (y 2, 256, .inr (.inl qv)))]) hfix (cX7_volumeOf_ok l D y atb tp tw tv tf aq u0 u1 u2 u3 u4 pa we vo fm sa lo qs ql qt qw qv qn v4_1 _ hc_3) (cwV 1 hts gX7_liveVolume_X7_volumeOf rfl rfl rfl (by decide +kernel) ⟨Nat.le_of_ble_eq_true rfl, Nat.le_of_ble_eq_true rfl⟩) E hP hD hS [0, 1, 2, 3, 4, 5, 6, 7, 8, 9, 10] [] [0, 1, 2, 3, 4, 5, 6, 7, 8, 9, 10] rfl rfl rfl rfl (by decide) rfl rfl 0 6 rfl rfl rfl hl.1 rfl (Nat.le_of_ble_eq_true rfl) dX7_liveVolume_15 ⟨Nat.zero_le _, Nat.zero_le _⟩ (fun H locs hP hD hS => ?_)
        refine W.eq (g2 := F0 m 18 ls [.long r_2, .long v4_0]) rfl ?_
        refine lv_ladd hx hb dX7_liveVolume_18 ?_
        refine lv_lstore_n (lv' := [(1, .long (v4_0 + r_2)), (0, .ref atb), (3, .int v4_1)]) hx hb dX7_liveVolume_19 rfl hl (by decide) rfl (fun ls hl => ?_)
        refine lv_iinc (v := (v4_1 + (1 : Int32))) (lv' := [(3, .int (v4_1 + (1 : Int32))), (1, .long (v4_0 + r_2)), (0, .ref atb)]) hx hb dX7_liveVolume_20 hl (k := 2) rfl rfl (by decide) rfl (fun ls hl => ?_)
        refine lv_goto (tgt := 4) hx hb dX7_liveVolume_23 (by decide) ?_
        exact ih4 (v4_0 + r_2) (v4_1 + (1 : Int32)) _ _ _ hf hP hD hS (lv_sub hl [2, 1, 0] rfl)
  unfold fX7_liveVolume at hf
  refine lv_lconst (v := (0 : Int64)) hx hb dX7_liveVolume_0 (by decide) ?_
  refine lv_lstore_n (lv' := [(1, .long (0 : Int64)), (0, .ref atb)]) hx hb dX7_liveVolume_1 rfl hl (by decide) rfl (fun ls hl => ?_)
  refine lv_iconst (v := (1 : Int32)) hx hb dX7_liveVolume_2 (by decide) ?_
  refine lv_istore_n (lv' := [(3, .int (1 : Int32)), (1, .long (0 : Int64)), (0, .ref atb)]) hx hb dX7_liveVolume_3 rfl hl (by decide) rfl (fun ls hl => ?_)
  exact hL4 FU (0 : Int64) (1 : Int32) _ _ _ hf hP hD hS (lv_sub hl [2, 1, 0] rfl)

set_option maxHeartbeats 4000000 in
set_option maxRecDepth 100000 in
theorem cX7_lostVolume_ok (l : Launch) (D : va_G) (y : Nat → ClassId) (atb : Nat) (tp : Nat) (tw : Nat) (tv : Nat) (tf : Nat) (aq : Nat) (u0 : Nat) (u1 : Nat) (u2 : Nat) (u3 : Nat) (u4 : Nat) (pa : Nat → Int32) (we : Nat → Int32) (vo : Nat → Int64) (fm : Nat → Int32) (sa : Int32) (lo : Int64) (qs : Nat → Int32) (ql : Nat → Int64) (qt : Nat → Int32) (qw : Nat → Int32) (qv : Nat → Int64) (qn : Int32) : CT l D y yX7_lostVolume wsX7_lostVolume ({ frames := 0, cells := 0, slots := 0, locals := 0 } : Room) [.ref atb] [(atb, .inr (6, [.ref tp, .ref tw, .ref tv, .ref tf, .ref aq, .int sa, .long lo])), (tp, .inl (y 1, 121, .inl pa)), (tw, .inl (y 1, 121, .inl we)), (tv, .inl (y 2, 121, .inr (.inl vo))), (tf, .inl (y 3, 121, .inl fm)), (aq, .inr (3, [.ref u0, .ref u1, .ref u2, .ref u3, .ref u4, .int qn])), (u0, .inl (y 1, 256, .inl qs)), (u1, .inl (y 2, 256, .inr (.inl ql))), (u2, .inl (y 1, 256, .inl qt)), (u3, .inl (y 1, 256, .inl qw)), (u4, .inl (y 2, 256, .inr (.inl qv)))] (some (.long lo)) [(atb, .inr (6, [.ref tp, .ref tw, .ref tv, .ref tf, .ref aq, .int sa, .long lo])), (tp, .inl (y 1, 121, .inl pa)), (tw, .inl (y 1, 121, .inl we)), (tv, .inl (y 2, 121, .inr (.inl vo))), (tf, .inl (y 3, 121, .inl fm)), (aq, .inr (3, [.ref u0, .ref u1, .ref u2, .ref u3, .ref u4, .int qn])), (u0, .inl (y 1, 256, .inl qs)), (u1, .inl (y 2, 256, .inr (.inl ql))), (u2, .inl (y 1, 256, .inl qt)), (u3, .inl (y 1, 256, .inl qw)), (u4, .inl (y 2, 256, .inr (.inl qv)))] := by
  intro sz
  refine Met.ofW (cc := cX7_lostVolume) (maxL := 1) (ret := (some .long)) (by decide) rfl ?_
  intro p e s m args below meth c s₁ B hml hv
  obtain ⟨rfl, hsz, hP, hK, hD0, hst, hno⟩ := hv
  have hx := B.exec
  have hb := B.bytes
  have hr := B.returns
  have hts := atoms_spec (ws := wsX7_lostVolume) B.pre
  have hown : s.vm.findClass RX7 = some m.cls := findClass_of_methodNamed B.named
  have hlocks := B.notSynchronized
  subst hsz
  have hD := hD0.self (sz := s.heap.size)
  generalize hAe : va_A [(atb, .inr (6, [.ref tp, .ref tw, .ref tv, .ref tf, .ref aq, .int sa, .long lo])), (tp, .inl (y 1, 121, .inl pa)), (tw, .inl (y 1, 121, .inl we)), (tv, .inl (y 2, 121, .inr (.inl vo))), (tf, .inl (y 3, 121, .inl fm)), (aq, .inr (3, [.ref u0, .ref u1, .ref u2, .ref u3, .ref u4, .int qn])), (u0, .inl (y 1, 256, .inl qs)), (u1, .inl (y 2, 256, .inr (.inl ql))), (u2, .inl (y 1, 256, .inl qt)), (u3, .inl (y 1, 256, .inl qw)), (u4, .inl (y 2, 256, .inr (.inl qv)))] s.heap.size = A at hD hst ⊢
  have hA : ∀ q : Nat, s.heap.size ≤ q → A q := fun q h => by rw [← hAe]; exact Or.inr h
  have hS : va_S A s.heap s.heap [] := va_S.rf
  have E : Ev D y A s := ⟨hK, hst, hno, hA⟩
  have hfix : CallFix p m c cX7_lostVolume 1 s _ wsX7_lostVolume RX7 := ⟨hx, hb, hml, hown, hts⟩
  have hP : va_P D vwCl [(atb, .inr (6, [.ref tp, .ref tw, .ref tv, .ref tf, .ref aq, .int sa, .long lo])), (tp, .inl (y 1, 121, .inl pa)), (tw, .inl (y 1, 121, .inl we)), (tv, .inl (y 2, 121, .inr (.inl vo))), (tf, .inl (y 3, 121, .inl fm)), (aq, .inr (3, [.ref u0, .ref u1, .ref u2, .ref u3, .ref u4, .int qn])), (u0, .inl (y 1, 256, .inl qs)), (u1, .inl (y 2, 256, .inr (.inl ql))), (u2, .inl (y 1, 256, .inl qt)), (u3, .inl (y 1, 256, .inl qw)), (u4, .inl (y 2, 256, .inr (.inl qv)))] s.heap := hP
  have iX7 : ∀ w ∈ wsX70, w ∈ wsX7_lostVolume := by decide +kernel
  have hl := lv_entry ([.ref atb]) (n := 1) (Nat.le_of_ble_eq_true rfl)
  rw [lg_entry_eq]
  generalize (lg_sl ([.ref atb]) ++ List.replicate (1 - (lg_sl ([.ref atb])).length) Slot.unset).toArray = ls at hl ⊢
  have hl : lv_has ls 1 [(0, .ref atb)] := hl
  refine lv_aload_n hx hb dX7_lostVolume_0 rfl (lv_at hl 0 rfl) ?_
  refine va_get (D := D) (ci := 6) (v := .long lo) (C := RX7) (T := TX7) (N := 7) hx hb hts iX7 hown hK hP 0 rfl rfl 6 (by decide) (hts (.fieldLink RX7 37 "SampleTracker$Table" "lost" "J") (by decide +kernel)) (fun _ h9 => h9) rfl dX7_lostVolume_1 ?_
  exact W.lret hx hb hr (fun t ht hW => ⟨⟨(), rfl, by rw [ht]; exact hP, hD⟩, hS.F ht⟩) hS.2.2 dX7_lostVolume_4

def fX7_volumeStillAllowed (vo : Nat → Int64) (sa : Int32) (lo : Int64) : Option (Int64) := ((fX7_liveVolume vo sa).bind fun r_1 => some (((9223372036854775807 : Int64) - r_1) - lo))

set_option maxHeartbeats 4000000 in
set_option maxRecDepth 100000 in
theorem cX7_volumeStillAllowed_ok (l : Launch) (D : va_G) (y : Nat → ClassId) (atb : Nat) (tp : Nat) (tw : Nat) (tv : Nat) (tf : Nat) (aq : Nat) (u0 : Nat) (u1 : Nat) (u2 : Nat) (u3 : Nat) (u4 : Nat) (pa : Nat → Int32) (we : Nat → Int32) (vo : Nat → Int64) (fm : Nat → Int32) (sa : Int32) (lo : Int64) (qs : Nat → Int32) (ql : Nat → Int64) (qt : Nat → Int32) (qw : Nat → Int32) (qv : Nat → Int64) (qn : Int32) (res : Int64) (hf : fX7_volumeStillAllowed vo sa lo = some res) : CT l D y yX7_volumeStillAllowed wsX7_volumeStillAllowed ({ frames := 3, cells := 0, slots := 0, locals := 65 } : Room) [.ref atb] [(atb, .inr (6, [.ref tp, .ref tw, .ref tv, .ref tf, .ref aq, .int sa, .long lo])), (tp, .inl (y 1, 121, .inl pa)), (tw, .inl (y 1, 121, .inl we)), (tv, .inl (y 2, 121, .inr (.inl vo))), (tf, .inl (y 3, 121, .inl fm)), (aq, .inr (3, [.ref u0, .ref u1, .ref u2, .ref u3, .ref u4, .int qn])), (u0, .inl (y 1, 256, .inl qs)), (u1, .inl (y 2, 256, .inr (.inl ql))), (u2, .inl (y 1, 256, .inl qt)), (u3, .inl (y 1, 256, .inl qw)), (u4, .inl (y 2, 256, .inr (.inl qv)))] (some (.long res)) [(atb, .inr (6, [.ref tp, .ref tw, .ref tv, .ref tf, .ref aq, .int sa, .long lo])), (tp, .inl (y 1, 121, .inl pa)), (tw, .inl (y 1, 121, .inl we)), (tv, .inl (y 2, 121, .inr (.inl vo))), (tf, .inl (y 3, 121, .inl fm)), (aq, .inr (3, [.ref u0, .ref u1, .ref u2, .ref u3, .ref u4, .int qn])), (u0, .inl (y 1, 256, .inl qs)), (u1, .inl (y 2, 256, .inr (.inl ql))), (u2, .inl (y 1, 256, .inl qt)), (u3, .inl (y 1, 256, .inl qw)), (u4, .inl (y 2, 256, .inr (.inl qv)))] := by
  intro sz
  refine Met.ofW (cc := cX7_volumeStillAllowed) (maxL := 1) (ret := (some .long)) (by decide) rfl ?_
  intro p e s m args below meth c s₁ B hml hv
  obtain ⟨rfl, hsz, hP, hK, hD0, hst, hno⟩ := hv
  have hx := B.exec
  have hb := B.bytes
  have hr := B.returns
  have hts := atoms_spec (ws := wsX7_volumeStillAllowed) B.pre
  have hown : s.vm.findClass RX7 = some m.cls := findClass_of_methodNamed B.named
  have hlocks := B.notSynchronized
  subst hsz
  have hD := hD0.self (sz := s.heap.size)
  generalize hAe : va_A [(atb, .inr (6, [.ref tp, .ref tw, .ref tv, .ref tf, .ref aq, .int sa, .long lo])), (tp, .inl (y 1, 121, .inl pa)), (tw, .inl (y 1, 121, .inl we)), (tv, .inl (y 2, 121, .inr (.inl vo))), (tf, .inl (y 3, 121, .inl fm)), (aq, .inr (3, [.ref u0, .ref u1, .ref u2, .ref u3, .ref u4, .int qn])), (u0, .inl (y 1, 256, .inl qs)), (u1, .inl (y 2, 256, .inr (.inl ql))), (u2, .inl (y 1, 256, .inl qt)), (u3, .inl (y 1, 256, .inl qw)), (u4, .inl (y 2, 256, .inr (.inl qv)))] s.heap.size = A at hD hst ⊢
  have hA : ∀ q : Nat, s.heap.size ≤ q → A q := fun q h => by rw [← hAe]; exact Or.inr h
  have hS : va_S A s.heap s.heap [] := va_S.rf
  have E : Ev D y A s := ⟨hK, hst, hno, hA⟩
  have hfix : CallFix p m c cX7_volumeStillAllowed 1 s _ wsX7_volumeStillAllowed RX7 := ⟨hx, hb, hml, hown, hts⟩
  have hP : va_P D vwCl [(atb, .inr (6, [.ref tp, .ref tw, .ref tv, .ref tf, .ref aq, .int sa, .long lo])), (tp, .inl (y 1, 121, .inl pa)), (tw, .inl (y 1, 121, .inl we)), (tv, .inl (y 2, 121, .inr (.inl vo))), (tf, .inl (y 3, 121, .inl fm)), (aq, .inr (3, [.ref u0, .ref u1, .ref u2, .ref u3, .ref u4, .int qn])), (u0, .inl (y 1, 256, .inl qs)), (u1, .inl (y 2, 256, .inr (.inl ql))), (u2, .inl (y 1, 256, .inl qt)), (u3, .inl (y 1, 256, .inl qw)), (u4, .inl (y 2, 256, .inr (.inl qv)))] s.heap := hP
  have iX7 : ∀ w ∈ wsX70, w ∈ wsX7_volumeStillAllowed := by decide +kernel
  have hl := lv_entry ([.ref atb]) (n := 1) (Nat.le_of_ble_eq_true rfl)
  rw [lg_entry_eq]
  generalize (lg_sl ([.ref atb]) ++ List.replicate (1 - (lg_sl ([.ref atb])).length) Slot.unset).toArray = ls at hl ⊢
  have hl : lv_has ls 1 [(0, .ref atb)] := hl
  unfold fX7_volumeStillAllowed at hf
  refine lv_ldc2 (v := (9223372036854775807 : Int64)) hx hb hown (hts (.constantLong RX7 69 (9223372036854775807 : Int64)) (by decide +kernel)) dX7_volumeStillAllowed_0 ?_
  refine lv_aload_n hx hb dX7_volumeStillAllowed_3 rfl (lv_at hl 0 rfl) ?_
  obtain ⟨r_1, hc_2, hf⟩ := obd hf
  refine ct_V (As := []) (rest := [.long (9223372036854775807 : Int64)]) (wr := []) (wn := [(atb, .inr (6, [.ref tp, .ref tw, .ref tv, .ref tf, .ref aq, .int sa, .long lo])), (tp, .inl (y 1, 121, .inl pa)), (tw, .inl (y 1, 121, .inl we)), (tv, .inl (y 2, 121, .inr (.inl vo))), (tf, .inl (y 3, 121, .inl fm)), (aq, .inr (3, [.ref u0, .ref u1, .ref u2, .ref u3, .ref u4, .int qn])), (u0, .inl (y 1, 256, .inl qs)), (u1, .inl (y 2, 256, .inr (.inl ql))), (u2, .inl (y 1, 256, .inl qt)), (u3, .inl (y 1, 256, .inl qw)), (u4, .inl (y 2, 256, .inr (.inl qv)))]) hfix (cX7_liveVolume_ok l D y atb tp tw tv tf aq u0 u1 u2 u3 u4 pa we vo fm sa lo qs ql qt qw qv qn _ hc_2) (cwV 0 hts gX7_volumeStillAllowed_X7_liveVolume rfl rfl rfl (by decide +kernel) ⟨Nat.le_of_ble_eq_true rfl, Nat.le_of_ble_eq_true rfl⟩) E hP hD hS [0, 1, 2, 3, 4, 5, 6, 7, 8, 9, 10] [] [0, 1, 2, 3, 4, 5, 6, 7, 8, 9, 10] rfl rfl rfl rfl (by decide) rfl rfl 0 6 rfl rfl rfl hl.1 rfl (Nat.le_of_ble_eq_true rfl) dX7_volumeStillAllowed_4 ⟨Nat.zero_le _, Nat.zero_le _⟩ (fun H locs hP hD hS => ?_)
  refine W.eq (g2 := F0 m 7 ls [.long r_1, .long (9223372036854775807 : Int64)]) rfl ?_
  refine lv_lsub hx hb dX7_volumeStillAllowed_7 ?_
  refine lv_aload_n hx hb dX7_volumeStillAllowed_8 rfl (lv_at hl 0 rfl) ?_
  refine va_get (D := D) (ci := 6) (v := .long lo) (C := RX7) (T := TX7) (N := 7) hx hb hts iX7 hown hK hP 0 rfl rfl 6 (by decide) (hts (.fieldLink RX7 37 "SampleTracker$Table" "lost" "J") (by decide +kernel)) (fun _ h9 => h9) rfl dX7_volumeStillAllowed_9 ?_
  refine lv_lsub hx hb dX7_volumeStillAllowed_12 ?_
  obtain rfl := Option.some.inj hf
  exact W.lret hx hb hr (fun t ht hW => ⟨⟨(), rfl, by rw [ht]; exact hP, hD⟩, hS.F ht⟩) hS.2.2 dX7_volumeStillAllowed_13

def fX7_volumeOfFamily_17 (pa : Nat → Int32) (vo : Nat → Int64) (sa : Int32) (p1 : Int32) : Nat → Int64 → Int32 → (Nat → Int32) → Option (Int64 × (Nat → Int32))
  | 0, _, _, _ => none
  | n + 1, v17_0, v17_1, v17_2 => (if sa < v17_1 then some (v17_0, v17_2) else (if (120 : Int32) < v17_1 then some (v17_0, v17_2) else ((fX7_parentOf pa sa v17_1).bind fun r_3 => (if v17_1 = p1 then (if (ib v17_1 121) = true then (if ((upd v17_2 v17_1.toNatClampNeg (vp_nar .boolean (1 : Int32))) v17_1.toNatClampNeg) = 0 then fX7_volumeOfFamily_17 pa vo sa p1 n (v17_0 + (0 : Int64)) (v17_1 + (1 : Int32)) (upd v17_2 v17_1.toNatClampNeg (vp_nar .boolean (1 : Int32))) else fX7_volumeOfFamily_17 pa vo sa p1 n (v17_0 + (vo v17_1.toNatClampNeg)) (v17_1 + (1 : Int32)) (upd v17_2 v17_1.toNatClampNeg (vp_nar .boolean (1 : Int32)))) else none) else ((fX7_isSample sa r_3).bind fun r_10 => (if (zb r_10) = 0 then (if (ib v17_1 121) = true then (if ((upd v17_2 v17_1.toNatClampNeg (vp_nar .boolean (0 : Int32))) v17_1.toNatClampNeg) = 0 then fX7_volumeOfFamily_17 pa vo sa p1 n (v17_0 + (0 : Int64)) (v17_1 + (1 : Int32)) (upd v17_2 v17_1.toNatClampNeg (vp_nar .boolean (0 : Int32))) else fX7_volumeOfFamily_17 pa vo sa p1 n (v17_0 + (vo v17_1.toNatClampNeg)) (v17_1 + (1 : Int32)) (upd v17_2 v17_1.toNatClampNeg (vp_nar .boolean (0 : Int32)))) else none) else (if (ib r_3 121) = true then (if (v17_2 r_3.toNatClampNeg) = 0 then (if (ib v17_1 121) = true then (if ((upd v17_2 v17_1.toNatClampNeg (vp_nar .boolean (0 : Int32))) v17_1.toNatClampNeg) = 0 then fX7_volumeOfFamily_17 pa vo sa p1 n (v17_0 + (0 : Int64)) (v17_1 + (1 : Int32)) (upd v17_2 v17_1.toNatClampNeg (vp_nar .boolean (0 : Int32))) else fX7_volumeOfFamily_17 pa vo sa p1 n (v17_0 + (vo v17_1.toNatClampNeg)) (v17_1 + (1 : Int32)) (upd v17_2 v17_1.toNatClampNeg (vp_nar .boolean (0 : Int32)))) else none) else (if (ib v17_1 121) = true then (if ((upd v17_2 v17_1.toNatClampNeg (vp_nar .boolean (1 : Int32))) v17_1.toNatClampNeg) = 0 then fX7_volumeOfFamily_17 pa vo sa p1 n (v17_0 + (0 : Int64)) (v17_1 + (1 : Int32)) (upd v17_2 v17_1.toNatClampNeg (vp_nar .boolean (1 : Int32))) else fX7_volumeOfFamily_17 pa vo sa p1 n (v17_0 + (vo v17_1.toNatClampNeg)) (v17_1 + (1 : Int32)) (upd v17_2 v17_1.toNatClampNeg (vp_nar .boolean (1 : Int32)))) else none)) else none)))))))

def fX7_volumeOfFamily (pa : Nat → Int32) (vo : Nat → Int64) (fm : Nat → Int32) (sa : Int32) (p1 : Int32) : Option (Int64 × (Nat → Int32)) := ((fX7_isSample sa p1).bind fun r_27 => (if (zb r_27) = 0 then some ((-1 : Int64), fm) else fX7_volumeOfFamily_17 pa vo sa p1 FU (0 : Int64) (1 : Int32) fm))

set_option maxHeartbeats 4000000 in
set_option maxRecDepth 100000 in
theorem cX7_volumeOfFamily_ok (l : Launch) (D : va_G) (y : Nat → ClassId) (atb : Nat) (tp : Nat) (tw : Nat) (tv : Nat) (tf : Nat) (aq : Nat) (u0 : Nat) (u1 : Nat) (u2 : Nat) (u3 : Nat) (u4 : Nat) (pa : Nat → Int32) (we : Nat → Int32) (vo : Nat → Int64) (fm : Nat → Int32) (sa : Int32) (lo : Int64) (qs : Nat → Int32) (ql : Nat → Int64) (qt : Nat → Int32) (qw : Nat → Int32) (qv : Nat → Int64) (qn : Int32) (p1 : Int32) (res : Int64 × (Nat → Int32)) (hf : fX7_volumeOfFamily pa vo fm sa p1 = some res) : CT l D y yX7_volumeOfFamily wsX7_volumeOfFamily ({ frames := 2, cells := 0, slots := 0, locals := 42 } : Room) [.ref atb, .int p1] [(atb, .inr (6, [.ref tp, .ref tw, .ref tv, .ref tf, .ref aq, .int sa, .long lo])), (tp, .inl (y 1, 121, .inl pa)), (tw, .inl (y 1, 121, .inl we)), (tv, .inl (y 2, 121, .inr (.inl vo))), (tf, .inl (y 3, 121, .inl fm)), (aq, .inr (3, [.ref u0, .ref u1, .ref u2, .ref u3, .ref u4, .int qn])), (u0, .inl (y 1, 256, .inl qs)), (u1, .inl (y 2, 256, .inr (.inl ql))), (u2, .inl (y 1, 256, .inl qt)), (u3, .inl (y 1, 256, .inl qw)), (u4, .inl (y 2, 256, .inr (.inl qv)))] (some (.long res.1)) [(atb, .inr (6, [.ref tp, .ref tw, .ref tv, .ref tf, .ref aq, .int sa, .long lo])), (tp, .inl (y 1, 121, .inl pa)), (tw, .inl (y 1, 121, .inl we)), (tv, .inl (y 2, 121, .inr (.inl vo))), (tf, .inl (y 3, 121, .inl res.2)), (aq, .inr (3, [.ref u0, .ref u1, .ref u2, .ref u3, .ref u4, .int qn])), (u0, .inl (y 1, 256, .inl qs)), (u1, .inl (y 2, 256, .inr (.inl ql))), (u2, .inl (y 1, 256, .inl qt)), (u3, .inl (y 1, 256, .inl qw)), (u4, .inl (y 2, 256, .inr (.inl qv)))] := by
  intro sz
  refine Met.ofW (cc := cX7_volumeOfFamily) (maxL := 6) (ret := (some .long)) (by decide) rfl ?_
  intro p e s m args below meth c s₁ B hml hv
  obtain ⟨rfl, hsz, hP, hK, hD0, hst, hno⟩ := hv
  have hx := B.exec
  have hb := B.bytes
  have hr := B.returns
  have hts := atoms_spec (ws := wsX7_volumeOfFamily) B.pre
  have hown : s.vm.findClass RX7 = some m.cls := findClass_of_methodNamed B.named
  have hlocks := B.notSynchronized
  subst hsz
  have hD := hD0.self (sz := s.heap.size)
  generalize hAe : va_A [(atb, .inr (6, [.ref tp, .ref tw, .ref tv, .ref tf, .ref aq, .int sa, .long lo])), (tp, .inl (y 1, 121, .inl pa)), (tw, .inl (y 1, 121, .inl we)), (tv, .inl (y 2, 121, .inr (.inl vo))), (tf, .inl (y 3, 121, .inl fm)), (aq, .inr (3, [.ref u0, .ref u1, .ref u2, .ref u3, .ref u4, .int qn])), (u0, .inl (y 1, 256, .inl qs)), (u1, .inl (y 2, 256, .inr (.inl ql))), (u2, .inl (y 1, 256, .inl qt)), (u3, .inl (y 1, 256, .inl qw)), (u4, .inl (y 2, 256, .inr (.inl qv)))] s.heap.size = A at hD hst ⊢
  have hA : ∀ q : Nat, s.heap.size ≤ q → A q := fun q h => by rw [← hAe]; exact Or.inr h
  have hS : va_S A s.heap s.heap [] := va_S.rf
  have E : Ev D y A s := ⟨hK, hst, hno, hA⟩
  have hfix : CallFix p m c cX7_volumeOfFamily 6 s _ wsX7_volumeOfFamily RX7 := ⟨hx, hb, hml, hown, hts⟩
  have hP : va_P D vwCl [(atb, .inr (6, [.ref tp, .ref tw, .ref tv, .ref tf, .ref aq, .int sa, .long lo])), (tp, .inl (y 1, 121, .inl pa)), (tw, .inl (y 1, 121, .inl we)), (tv, .inl (y 2, 121, .inr (.inl vo))), (tf, .inl (y 3, 121, .inl fm)), (aq, .inr (3, [.ref u0, .ref u1, .ref u2, .ref u3, .ref u4, .int qn])), (u0, .inl (y 1, 256, .inl qs)), (u1, .inl (y 2, 256, .inr (.inl ql))), (u2, .inl (y 1, 256, .inl qt)), (u3, .inl (y 1, 256, .inl qw)), (u4, .inl (y 2, 256, .inr (.inl qv)))] s.heap := hP
  have iX7 : ∀ w ∈ wsX70, w ∈ wsX7_volumeOfFamily := by decide +kernel
  have hl := lv_entry ([.ref atb, .int p1]) (n := 6) (Nat.le_of_ble_eq_true rfl)
  rw [lg_entry_eq]
  generalize (lg_sl ([.ref atb, .int p1]) ++ List.replicate (6 - (lg_sl ([.ref atb, .int p1])).length) Slot.unset).toArray = ls at hl ⊢
  have hl : lv_has ls 6 [(0, .ref atb), (1, .int p1)] := hl
  have hL17 : ∀ (n : Nat) (v17_0 : Int64) (v17_1 : Int32) (v17_2 : Nat → Int32) (H : Heap) (locs : List Loc) (ls : Array Slot), fX7_volumeOfFamily_17 pa vo sa p1 n v17_0 v17_1 v17_2 = some res → va_P D vwCl [(atb, .inr (6, [.ref tp, .ref tw, .ref tv, .ref tf, .ref aq, .int sa, .long lo])), (tp, .inl (y 1, 121, .inl pa)), (tw, .inl (y 1, 121, .inl we)), (tv, .inl (y 2, 121, .inr (.inl vo))), (tf, .inl (y 3, 121, .inl v17_2)), (aq, .inr (3, [.ref u0, .ref u1, .ref u2, .ref u3, .ref u4, .int qn])), (u0, .inl (y 1, 256, .inl qs)), (u1, .inl (y 2, 256, .inr (.inl ql))), (u2, .inl (y 1, 256, .inl qt)), (u3, .inl (y 1, 256, .inl qw)), (u4, .inl (y 2, 256, .inr (.inl qv)))] H → va_D A [(atb, .inr (6, [.ref tp, .ref tw, .ref tv, .ref tf, .ref aq, .int sa, .long lo])), (tp, .inl (y 1, 121, .inl pa)), (tw, .inl (y 1, 121, .inl we)), (tv, .inl (y 2, 121, .inr (.inl vo))), (tf, .inl (y 3, 121, .inl v17_2)), (aq, .inr (3, [.ref u0, .ref u1, .ref u2, .ref u3, .ref u4, .int qn])), (u0, .inl (y 1, 256, .inl qs)), (u1, .inl (y 2, 256, .inr (.inl ql))), (u2, .inl (y 1, 256, .inl qt)), (u3, .inl (y 1, 256, .inl qw)), (u4, .inl (y 2, 256, .inr (.inl qv)))] → va_S A s.heap H locs → lv_has ls 6 [(0, .ref atb), (1, .int p1), (2, .long v17_0), (4, .int v17_1)] → W p l e (headSpec wsX7_volumeOfFamily ({ frames := 2, cells := 0, slots := 0, locals := 42 } : Room)).room s m ([.ref atb, .int p1] : List Value).toArray below meth c H locs 0 0 (MQ below (Po D (fun _ : Unit => some (.long res.1)) (fun _ => [(atb, .inr (6, [.ref tp, .ref tw, .ref tv, .ref tf, .ref aq, .int sa, .long lo])), (tp, .inl (y 1, 121, .inl pa)), (tw, .inl (y 1, 121, .inl we)), (tv, .inl (y 2, 121, .inr (.inl vo))), (tf, .inl (y 3, 121, .inl res.2)), (aq, .inr (3, [.ref u0, .ref u1, .ref u2, .ref u3, .ref u4, .int qn])), (u0, .inl (y 1, 256, .inl qs)), (u1, .inl (y 2, 256, .inr (.inl ql))), (u2, .inl (y 1, 256, .inl qt)), (u3, .inl (y 1, 256, .inl qw)), (u4, .inl (y 2, 256, .inr (.inl qv)))]) A) ([.ref atb, .int p1] : List Value).toArray s 0 0 A) (F0 m 17 ls []) := by
    intro n
    induction n with
    | zero =>
      intro v17_0 v17_1 v17_2 H locs ls hf
      exact absurd (show (none : Option (Int64 × (Nat → Int32))) = some res from hf) (fun q => by cases q)
    | succ n ih17 =>
      intro v17_0 v17_1 v17_2 H locs ls hf hP hD hS hl
      unfold fX7_volumeOfFamily_17 at hf
      refine lv_iload hx hb dX7_volumeOfFamily_17 (lv_at hl 3 rfl) ?_
      refine lv_aload_n hx hb dX7_volumeOfFamily_19 rfl (lv_at hl 0 rfl) ?_
      refine va_get (D := D) (ci := 6) (v := .int sa) (C := RX7) (T := TX7) (N := 7) hx hb hts iX7 hown hK hP 0 rfl rfl 5 (by decide) (hts (.fieldLink RX7 33 "SampleTracker$Table" "samples" "I") (by decide +kernel)) (fun _ h9 => h9) rfl dX7_volumeOfFamily_20 ?_
      refine lv_icmp_gt (tgt := 108) hx hb dX7_volumeOfFamily_23 (by decide) (fun c_1 => ?_) (fun c_1 => ?_)
      · have hf := ifp hf c_1
        refine lv_lload_n hx hb dX7_volumeOfFamily_108 rfl (lv_at hl 2 rfl) ?_
        obtain rfl := Option.some.inj hf
        exact W.lret hx hb hr (fun t ht hW => ⟨⟨(), rfl, by rw [ht]; exact hP, hD⟩, hS.F ht⟩) hS.2.2 dX7_volumeOfFamily_109
      · have hf := ifn hf c_1
        refine lv_iload hx hb dX7_volumeOfFamily_26 (lv_at hl 3 rfl) ?_
        refine lv_bipush (v := (120 : Int32)) hx hb dX7_volumeOfFamily_28 (by decide) ?_
        refine lv_icmp_gt (tgt := 108) hx hb dX7_volumeOfFamily_30 (by decide) (fun c_2 => ?_) (fun c_2 => ?_)
        · have hf := ifp hf c_2
          refine lv_lload_n hx hb dX7_volumeOfFamily_108 rfl (lv_at hl 2 rfl) ?_
          obtain rfl := Option.some.inj hf
          exact W.lret hx hb hr (fun t ht hW => ⟨⟨(), rfl, by rw [ht]; exact hP, hD⟩, hS.F ht⟩) hS.2.2 dX7_volumeOfFamily_109
        · have hf := ifn hf c_2
          refine lv_aload_n hx hb dX7_volumeOfFamily_33 rfl (lv_at hl 0 rfl) ?_
          refine lv_iload hx hb dX7_volumeOfFamily_34 (lv_at hl 3 rfl) ?_
          obtain ⟨r_3, hc_4, hf⟩ := obd hf
          refine ct_V (As := [.int v17_1]) (rest := []) (wr := []) (wn := [(atb, .inr (6, [.ref tp, .ref tw, .ref tv, .ref tf, .ref aq, .int sa, .long lo])), (tp, .inl (y 1, 121, .inl pa)), (tw, .inl (y 1, 121, .inl we)), (tv, .inl (y 2, 121, .inr (.inl vo))), (tf, .inl (y 3, 121, .inl v17_2)), (aq, .inr (3, [.ref u0, .ref u1, .ref u2, .ref u3, .ref u4, .int qn])), (u0, .inl (y 1, 256, .inl qs)), (u1, .inl (y 2, 256, .inr (.inl ql))), (u2, .inl (y 1, 256, .inl qt)), (u3, .inl (y 1, 256, .inl qw)), (u4, .inl (y 2, 256, .inr (.inl qv)))]) hfix (cX7_parentOf_ok l D y atb tp tw tv tf aq u0 u1 u2 u3 u4 pa we vo v17_2 sa lo qs ql qt qw qv qn v17_1 _ hc_4) (cwV 1 hts gX7_volumeOfFamily_X7_parentOf rfl rfl rfl (by decide +kernel) ⟨Nat.le_of_ble_eq_true rfl, Nat.le_of_ble_eq_true rfl⟩) E hP hD hS [0, 1, 2, 3, 4, 5, 6, 7, 8, 9, 10] [] [0, 1, 2, 3, 4, 5, 6, 7, 8, 9, 10] rfl rfl rfl rfl (by decide) rfl rfl 0 6 rfl rfl rfl hl.1 rfl (Nat.le_of_ble_eq_true rfl) dX7_volumeOfFamily_36 ⟨Nat.zero_le _, Nat.zero_le _⟩ (fun H locs hP hD hS => ?_)
          refine W.eq (g2 := F0 m 39 ls [.int r_3]) rfl ?_
          refine lv_istore (lv' := [(5, .int r_3), (0, .ref atb), (1, .int p1), (2, .long v17_0), (4, .int v17_1)]) hx hb dX7_volumeOfFamily_39 hl (by decide) rfl (fun ls hl => ?_)
          refine lv_aload_n hx hb dX7_volumeOfFamily_41 rfl (lv_at hl 1 rfl) ?_
          refine va_get (D := D) (ci := 6) (v := .ref tf) (C := RX7) (T := TX7) (N := 7) hx hb hts iX7 hown hK hP 0 rfl rfl 3 (by decide) (hts (.fieldLink RX7 22 "SampleTracker$Table" "inFamily" "[Z") (by decide +kernel)) (fun _ h9 => h9) rfl dX7_volumeOfFamily_42 ?_
          refine lv_iload hx hb dX7_volumeOfFamily_45 (lv_at hl 4 rfl) ?_
          refine lv_iload hx hb dX7_volumeOfFamily_47 (lv_at hl 4 rfl) ?_
          refine lv_iload_n hx hb dX7_volumeOfFamily_49 rfl (lv_at hl 2 rfl) ?_
          refine lv_icmp_eq (tgt := 72) hx hb dX7_volumeOfFamily_50 (by decide) (fun c_5 => ?_) (fun c_5 => ?_)
          · have hf := ifp hf c_5
            refine lv_iconst (v := (1 : Int32)) hx hb dX7_volumeOfFamily_72 (by decide) ?_
            refine lv_goto (tgt := 77) hx hb dX7_volumeOfFamily_73 (by decide) ?_
            obtain ⟨h_6, hf⟩ := ibk hf
            refine va_zast hx hb hK hP hD hS 4 3 rfl rfl (ib_in h_6) dX7_volumeOfFamily_77 (fun H locs hP hD hS => ?_)
            have hP : va_P D vwCl [(atb, .inr (6, [.ref tp, .ref tw, .ref tv, .ref tf, .ref aq, .int sa, .long lo])), (tp, .inl (y 1, 121, .inl pa)), (tw, .inl (y 1, 121, .inl we)), (tv, .inl (y 2, 121, .inr (.inl vo))), (tf, .inl (y 3, 121, .inl (upd v17_2 v17_1.toNatClampNeg (vp_nar .boolean (1 : Int32))))), (aq, .inr (3, [.ref u0, .ref u1, .ref u2, .ref u3, .ref u4, .int qn])), (u0, .inl (y 1, 256, .inl qs)), (u1, .inl (y 2, 256, .inr (.inl ql))), (u2, .inl (y 1, 256, .inl qt)), (u3, .inl (y 1, 256, .inl qw)), (u4, .inl (y 2, 256, .inr (.inl qv)))] H := hP
            have hD : va_D A [(atb, .inr (6, [.ref tp, .ref tw, .ref tv, .ref tf, .ref aq, .int sa, .long lo])), (tp, .inl (y 1, 121, .inl pa)), (tw, .inl (y 1, 121, .inl we)), (tv, .inl (y 2, 121, .inr (.inl vo))), (tf, .inl (y 3, 121, .inl (upd v17_2 v17_1.toNatClampNeg (vp_nar .boolean (1 : Int32))))), (aq, .inr (3, [.ref u0, .ref u1, .ref u2, .ref u3, .ref u4, .int qn])), (u0, .inl (y 1, 256, .inl qs)), (u1, .inl (y 2, 256, .inr (.inl ql))), (u2, .inl (y 1, 256, .inl qt)), (u3, .inl (y 1, 256, .inl qw)), (u4, .inl (y 2, 256, .inr (.inl qv)))] := hD
            refine lv_lload_n hx hb dX7_volumeOfFamily_78 rfl (lv_at hl 3 rfl) ?_
            refine lv_aload_n hx hb dX7_volumeOfFamily_79 rfl (lv_at hl 1 rfl) ?_
            refine va_get (D := D) (ci := 6) (v := .ref tf) (C := RX7) (T := TX7) (N := 7) hx hb hts iX7 hown hK hP 0 rfl rfl 3 (by decide) (hts (.fieldLink RX7 22 "SampleTracker$Table" "inFamily" "[Z") (by decide +kernel)) (fun _ h9 => h9) rfl dX7_volumeOfFamily_80 ?_
            refine lv_iload hx hb dX7_volumeOfFamily_83 (lv_at hl 4 rfl) ?_
            refine va_zald hx hb hK hP 4 3 rfl rfl (ib_in h_6) dX7_volumeOfFamily_85 ?_
            refine lv_if_eq (tgt := 99) hx hb dX7_volumeOfFamily_86 (by decide) (fun c_8 => ?_) (fun c_8 => ?_)
            · have hf := ifp hf c_8
              refine lv_lconst (v := (0 : Int64)) hx hb dX7_volumeOfFamily_99 (by decide) ?_
              refine lv_ladd hx hb dX7_volumeOfFamily_100 ?_
              refine lv_lstore_n (lv' := [(2, .long (v17_0 + (0 : Int64))), (5, .int r_3), (0, .ref atb), (1, .int p1), (4, .int v17_1)]) hx hb dX7_volumeOfFamily_101 rfl hl (by decide) rfl (fun ls hl => ?_)
              refine lv_iinc (v := (v17_1 + (1 : Int32))) (lv' := [(4, .int (v17_1 + (1 : Int32))), (2, .long (v17_0 + (0 : Int64))), (5, .int r_3), (0, .ref atb), (1, .int p1)]) hx hb dX7_volumeOfFamily_102 hl (k := 4) rfl rfl (by decide) rfl (fun ls hl => ?_)
              refine lv_goto (tgt := 17) hx hb dX7_volumeOfFamily_105 (by decide) ?_
              exact ih17 (v17_0 + (0 : Int64)) (v17_1 + (1 : Int32)) (upd v17_2 v17_1.toNatClampNeg (vp_nar .boolean (1 : Int32))) _ _ _ hf hP hD hS (lv_sub hl [3, 4, 1, 0] rfl)
            · have hf := ifn hf c_8
              refine lv_aload_n hx hb dX7_volumeOfFamily_89 rfl (lv_at hl 1 rfl) ?_
              refine va_get (D := D) (ci := 6) (v := .ref tv) (C := RX7) (T := TX7) (N := 7) hx hb hts iX7 hown hK hP 0 rfl rfl 2 (by decide) (hts (.fieldLink RX7 18 "SampleTracker$Table" "volumes" "[J") (by decide +kernel)) (fun _ h9 => h9) rfl dX7_volumeOfFamily_90 ?_
              refine lv_iload hx hb dX7_volumeOfFamily_93 (lv_at hl 4 rfl) ?_
              refine va_lald hx hb hK hP 3 2 rfl rfl (ib_in h_6) dX7_volumeOfFamily_95 ?_
              refine lv_goto (tgt := 100) hx hb dX7_volumeOfFamily_96 (by decide) ?_
              refine lv_ladd hx hb dX7_volumeOfFamily_100 ?_
              refine lv_lstore_n (lv' := [(2, .long (v17_0 + (vo v17_1.toNatClampNeg))), (5, .int r_3), (0, .ref atb), (1, .int p1), (4, .int v17_1)]) hx hb dX7_volumeOfFamily_101 rfl hl (by decide) rfl (fun ls hl => ?_)
              refine lv_iinc (v := (v17_1 + (1 : Int32))) (lv' := [(4, .int (v17_1 + (1 : Int32))), (2, .long (v17_0 + (vo v17_1.toNatClampNeg))), (5, .int r_3), (0, .ref atb), (1, .int p1)]) hx hb dX7_volumeOfFamily_102 hl (k := 4) rfl rfl (by decide) rfl (fun ls hl => ?_)
              refine lv_goto (tgt := 17) hx hb dX7_volumeOfFamily_105 (by decide) ?_
              exact ih17 (v17_0 + (vo v17_1.toNatClampNeg)) (v17_1 + (1 : Int32)) (upd v17_2 v17_1.toNatClampNeg (vp_nar .boolean (1 : Int32))) _ _ _ hf hP hD hS (lv_sub hl [3, 4, 1, 0] rfl)
          · have hf := ifn hf c_5
            refine lv_aload_n hx hb dX7_volumeOfFamily_53 rfl (lv_at hl 1 rfl) ?_
            refine lv_iload hx hb dX7_volumeOfFamily_54 (lv_at hl 0 rfl) ?_
            obtain ⟨r_10, hc_11, hf⟩ := obd hf
            refine ct_V (As := [.int r_3]) (rest := [.int v17_1, .ref tf]) (wr := []) (wn := [(atb, .inr (6, [.ref tp, .ref tw, .ref tv, .ref tf, .ref aq, .int sa, .long lo])), (tp, .inl (y 1, 121, .inl pa)), (tw, .inl (y 1, 121, .inl we)), (tv, .inl (y 2, 121, .inr (.inl vo))), (tf, .inl (y 3, 121, .inl v17_2)), (aq, .inr (3, [.ref u0, .ref u1, .ref u2, .ref u3, .ref u4, .int qn])), (u0, .inl (y 1, 256, .inl qs)), (u1, .inl (y 2, 256, .inr (.inl ql))), (u2, .inl (y 1, 256, .inl qt)), (u3, .inl (y 1, 256, .inl qw)), (u4, .inl (y 2, 256, .inr (.inl qv)))]) hfix (cX7_isSample_ok l D y atb tp tw tv tf aq u0 u1 u2 u3 u4 pa we vo v17_2 sa lo qs ql qt qw qv qn r_3 _ hc_11) (cwV 1 hts gX7_volumeOfFamily_X7_isSample rfl rfl rfl (by decide +kernel) ⟨Nat.le_of_ble_eq_true rfl, Nat.le_of_ble_eq_true rfl⟩) E hP hD hS [0, 1, 2, 3, 4, 5, 6, 7, 8, 9, 10] [] [0, 1, 2, 3, 4, 5, 6, 7, 8, 9, 10] rfl rfl rfl rfl (by decide) rfl rfl 0 6 rfl rfl rfl hl.1 rfl (Nat.le_of_ble_eq_true rfl) dX7_volumeOfFamily_56 ⟨Nat.zero_le _, Nat.zero_le _⟩ (fun H locs hP hD hS => ?_)
            refine W.eq (g2 := F0 m 59 ls [.int (zb r_10), .int v17_1, .ref tf]) rfl ?_
            refine lv_if_eq (tgt := 76) hx hb dX7_volumeOfFamily_59 (by decide) (fun c_12 => ?_) (fun c_12 => ?_)
            · have hf := ifp hf c_12
              refine lv_iconst (v := (0 : Int32)) hx hb dX7_volumeOfFamily_76 (by decide) ?_
              obtain ⟨h_13, hf⟩ := ibk hf
              refine va_zast hx hb hK hP hD hS 4 3 rfl rfl (ib_in h_13) dX7_volumeOfFamily_77 (fun H locs hP hD hS => ?_)
              have hP : va_P D vwCl [(atb, .inr (6, [.ref tp, .ref tw, .ref tv, .ref tf, .ref aq, .int sa, .long lo])), (tp, .inl (y 1, 121, .inl pa)), (tw, .inl (y 1, 121, .inl we)), (tv, .inl (y 2, 121, .inr (.inl vo))), (tf, .inl (y 3, 121, .inl (upd v17_2 v17_1.toNatClampNeg (vp_nar .boolean (0 : Int32))))), (aq, .inr (3, [.ref u0, .ref u1, .ref u2, .ref u3, .ref u4, .int qn])), (u0, .inl (y 1, 256, .inl qs)), (u1, .inl (y 2, 256, .inr (.inl ql))), (u2, .inl (y 1, 256, .inl qt)), (u3, .inl (y 1, 256, .inl qw)), (u4, .inl (y 2, 256, .inr (.inl qv)))] H := hP
              have hD : va_D A [(atb, .inr (6, [.ref tp, .ref tw, .ref tv, .ref tf, .ref aq, .int sa, .long lo])), (tp, .inl (y 1, 121, .inl pa)), (tw, .inl (y 1, 121, .inl we)), (tv, .inl (y 2, 121, .inr (.inl vo))), (tf, .inl (y 3, 121, .inl (upd v17_2 v17_1.toNatClampNeg (vp_nar .boolean (0 : Int32))))), (aq, .inr (3, [.ref u0, .ref u1, .ref u2, .ref u3, .ref u4, .int qn])), (u0, .inl (y 1, 256, .inl qs)), (u1, .inl (y 2, 256, .inr (.inl ql))), (u2, .inl (y 1, 256, .inl qt)), (u3, .inl (y 1, 256, .inl qw)), (u4, .inl (y 2, 256, .inr (.inl qv)))] := hD
              refine lv_lload_n hx hb dX7_volumeOfFamily_78 rfl (lv_at hl 3 rfl) ?_
              refine lv_aload_n hx hb dX7_volumeOfFamily_79 rfl (lv_at hl 1 rfl) ?_
              refine va_get (D := D) (ci := 6) (v := .ref tf) (C := RX7) (T := TX7) (N := 7) hx hb hts iX7 hown hK hP 0 rfl rfl 3 (by decide) (hts (.fieldLink RX7 22 "SampleTracker$Table" "inFamily" "[Z") (by decide +kernel)) (fun _ h9 => h9) rfl dX7_volumeOfFamily_80 ?_
              refine lv_iload hx hb dX7_volumeOfFamily_83 (lv_at hl 4 rfl) ?_
              refine va_zald hx hb hK hP 4 3 rfl rfl (ib_in h_13) dX7_volumeOfFamily_85 ?_
              refine lv_if_eq (tgt := 99) hx hb dX7_volumeOfFamily_86 (by decide) (fun c_15 => ?_) (fun c_15 => ?_)
              · have hf := ifp hf c_15
                refine lv_lconst (v := (0 : Int64)) hx hb dX7_volumeOfFamily_99 (by decide) ?_
                refine lv_ladd hx hb dX7_volumeOfFamily_100 ?_
                refine lv_lstore_n (lv' := [(2, .long (v17_0 + (0 : Int64))), (5, .int r_3), (0, .ref atb), (1, .int p1), (4, .int v17_1)]) hx hb dX7_volumeOfFamily_101 rfl hl (by decide) rfl (fun ls hl => ?_)
                refine lv_iinc (v := (v17_1 + (1 : Int32))) (lv' := [(4, .int (v17_1 + (1 : Int32))), (2, .long (v17_0 + (0 : Int64))), (5, .int r_3), (0, .ref atb), (1, .int p1)]) hx hb dX7_volumeOfFamily_102 hl (k := 4) rfl rfl (by decide) rfl (fun ls hl => ?_)
                refine lv_goto (tgt := 17) hx hb dX7_volumeOfFamily_105 (by decide) ?_
                exact ih17 (v17_0 + (0 : Int64)) (v17_1 + (1 : Int32)) (upd v17_2 v17_1.toNatClampNeg (vp_nar .boolean (0 : Int32))) _ _ _ hf hP hD hS (lv_sub hl [3, 4, 1, 0] rfl)
              · have hf := ifn hf c_15
                refine lv_aload_n hx hb dX7_volumeOfFamily_89 rfl (lv_at hl 1 rfl) ?_
                refine va_get (D := D) (ci := 6) (v := .ref tv) (C := RX7) (T := TX7) (N := 7) hx hb hts iX7 hown hK hP 0 rfl rfl 2 (by decide) (hts (.fieldLink RX7 18 "SampleTracker$Table" "volumes" "[J") (by decide +kernel)) (fun _ h9 => h9) rfl dX7_volumeOfFamily_90 ?_
                refine lv_iload hx hb dX7_volumeOfFamily_93 (lv_at hl 4 rfl) ?_
                refine va_lald hx hb hK hP 3 2 rfl rfl (ib_in h_13) dX7_volumeOfFamily_95 ?_
                refine lv_goto (tgt := 100) hx hb dX7_volumeOfFamily_96 (by decide) ?_
                refine lv_ladd hx hb dX7_volumeOfFamily_100 ?_
                refine lv_lstore_n (lv' := [(2, .long (v17_0 + (vo v17_1.toNatClampNeg))), (5, .int r_3), (0, .ref atb), (1, .int p1), (4, .int v17_1)]) hx hb dX7_volumeOfFamily_101 rfl hl (by decide) rfl (fun ls hl => ?_)
                refine lv_iinc (v := (v17_1 + (1 : Int32))) (lv' := [(4, .int (v17_1 + (1 : Int32))), (2, .long (v17_0 + (vo v17_1.toNatClampNeg))), (5, .int r_3), (0, .ref atb), (1, .int p1)]) hx hb dX7_volumeOfFamily_102 hl (k := 4) rfl rfl (by decide) rfl (fun ls hl => ?_)
                refine lv_goto (tgt := 17) hx hb dX7_volumeOfFamily_105 (by decide) ?_
                exact ih17 (v17_0 + (vo v17_1.toNatClampNeg)) (v17_1 + (1 : Int32)) (upd v17_2 v17_1.toNatClampNeg (vp_nar .boolean (0 : Int32))) _ _ _ hf hP hD hS (lv_sub hl [3, 4, 1, 0] rfl)
            · have hf := ifn hf c_12
              refine lv_aload_n hx hb dX7_volumeOfFamily_62 rfl (lv_at hl 1 rfl) ?_
              refine va_get (D := D) (ci := 6) (v := .ref tf) (C := RX7) (T := TX7) (N := 7) hx hb hts iX7 hown hK hP 0 rfl rfl 3 (by decide) (hts (.fieldLink RX7 22 "SampleTracker$Table" "inFamily" "[Z") (by decide +kernel)) (fun _ h9 => h9) rfl dX7_volumeOfFamily_63 ?_
              refine lv_iload hx hb dX7_volumeOfFamily_66 (lv_at hl 0 rfl) ?_
              obtain ⟨h_17, hf⟩ := ibk hf
              refine va_zald hx hb hK hP 4 3 rfl rfl (ib_in h_17) dX7_volumeOfFamily_68 ?_
              refine lv_if_eq (tgt := 76) hx hb dX7_volumeOfFamily_69 (by decide) (fun c_18 => ?_) (fun c_18 => ?_)
              · have hf := ifp hf c_18
                refine lv_iconst (v := (0 : Int32)) hx hb dX7_volumeOfFamily_76 (by decide) ?_
                obtain ⟨h_19, hf⟩ := ibk hf
                refine va_zast hx hb hK hP hD hS 4 3 rfl rfl (ib_in h_19) dX7_volumeOfFamily_77 (fun H locs hP hD hS => ?_)
                have hP : va_P D vwCl [(atb, .inr (6, [.ref tp, .ref tw, .ref tv, .ref tf, .ref aq, .int sa, .long lo])), (tp, .inl (y 1, 121, .inl pa)), (tw, .inl (y 1, 121, .inl we)), (tv, .inl (y 2, 121, .inr (.inl vo))), (tf, .inl (y 3, 121, .inl (upd v17_2 v17_1.toNatClampNeg (vp_nar .boolean (0 : Int32))))), (aq, .inr (3, [.ref u0, .ref u1, .ref u2, .ref u3, .ref u4, .int qn])), (u0, .inl (y 1, 256, .inl qs)), (u1, .inl (y 2, 256, .inr (.inl ql))), (u2, .inl (y 1, 256, .inl qt)), (u3, .inl (y 1, 256, .inl qw)), (u4, .inl (y 2, 256, .inr (.inl qv)))] H := hP
                have hD : va_D A [(atb, .inr (6, [.ref tp, .ref tw, .ref tv, .ref tf, .ref aq, .int sa, .long lo])), (tp, .inl (y 1, 121, .inl pa)), (tw, .inl (y 1, 121, .inl we)), (tv, .inl (y 2, 121, .inr (.inl vo))), (tf, .inl (y 3, 121, .inl (upd v17_2 v17_1.toNatClampNeg (vp_nar .boolean (0 : Int32))))), (aq, .inr (3, [.ref u0, .ref u1, .ref u2, .ref u3, .ref u4, .int qn])), (u0, .inl (y 1, 256, .inl qs)), (u1, .inl (y 2, 256, .inr (.inl ql))), (u2, .inl (y 1, 256, .inl qt)), (u3, .inl (y 1, 256, .inl qw)), (u4, .inl (y 2, 256, .inr (.inl qv)))] := hD
                refine lv_lload_n hx hb dX7_volumeOfFamily_78 rfl (lv_at hl 3 rfl) ?_
                refine lv_aload_n hx hb dX7_volumeOfFamily_79 rfl (lv_at hl 1 rfl) ?_
                refine va_get (D := D) (ci := 6) (v := .ref tf) (C := RX7) (T := TX7) (N := 7) hx hb hts iX7 hown hK hP 0 rfl rfl 3 (by decide) (hts (.fieldLink RX7 22 "SampleTracker$Table" "inFamily" "[Z") (by decide +kernel)) (fun _ h9 => h9) rfl dX7_volumeOfFamily_80 ?_
                refine lv_iload hx hb dX7_volumeOfFamily_83 (lv_at hl 4 rfl) ?_
                refine va_zald hx hb hK hP 4 3 rfl rfl (ib_in h_19) dX7_volumeOfFamily_85 ?_
                refine lv_if_eq (tgt := 99) hx hb dX7_volumeOfFamily_86 (by decide) (fun c_21 => ?_) (fun c_21 => ?_)
                · have hf := ifp hf c_21
                  refine lv_lconst (v := (0 : Int64)) hx hb dX7_volumeOfFamily_99 (by decide) ?_
                  refine lv_ladd hx hb dX7_volumeOfFamily_100 ?_
                  refine lv_lstore_n (lv' := [(2, .long (v17_0 + (0 : Int64))), (5, .int r_3), (0, .ref atb), (1, .int p1), (4, .int v17_1)]) hx hb dX7_volumeOfFamily_101 rfl hl (by decide) rfl (fun ls hl => ?_)
                  refine lv_iinc (v := (v17_1 + (1 : Int32))) (lv' := [(4, .int (v17_1 + (1 : Int32))), (2, .long (v17_0 + (0 : Int64))), (5, .int r_3), (0, .ref atb), (1, .int p1)]) hx hb dX7_volumeOfFamily_102 hl (k := 4) rfl rfl (by decide) rfl (fun ls hl => ?_)
                  refine lv_goto (tgt := 17) hx hb dX7_volumeOfFamily_105 (by decide) ?_
                  exact ih17 (v17_0 + (0 : Int64)) (v17_1 + (1 : Int32)) (upd v17_2 v17_1.toNatClampNeg (vp_nar .boolean (0 : Int32))) _ _ _ hf hP hD hS (lv_sub hl [3, 4, 1, 0] rfl)
                · have hf := ifn hf c_21
                  refine lv_aload_n hx hb dX7_volumeOfFamily_89 rfl (lv_at hl 1 rfl) ?_
                  refine va_get (D := D) (ci := 6) (v := .ref tv) (C := RX7) (T := TX7) (N := 7) hx hb hts iX7 hown hK hP 0 rfl rfl 2 (by decide) (hts (.fieldLink RX7 18 "SampleTracker$Table" "volumes" "[J") (by decide +kernel)) (fun _ h9 => h9) rfl dX7_volumeOfFamily_90 ?_
                  refine lv_iload hx hb dX7_volumeOfFamily_93 (lv_at hl 4 rfl) ?_
                  refine va_lald hx hb hK hP 3 2 rfl rfl (ib_in h_19) dX7_volumeOfFamily_95 ?_
                  refine lv_goto (tgt := 100) hx hb dX7_volumeOfFamily_96 (by decide) ?_
                  refine lv_ladd hx hb dX7_volumeOfFamily_100 ?_
                  refine lv_lstore_n (lv' := [(2, .long (v17_0 + (vo v17_1.toNatClampNeg))), (5, .int r_3), (0, .ref atb), (1, .int p1), (4, .int v17_1)]) hx hb dX7_volumeOfFamily_101 rfl hl (by decide) rfl (fun ls hl => ?_)
                  refine lv_iinc (v := (v17_1 + (1 : Int32))) (lv' := [(4, .int (v17_1 + (1 : Int32))), (2, .long (v17_0 + (vo v17_1.toNatClampNeg))), (5, .int r_3), (0, .ref atb), (1, .int p1)]) hx hb dX7_volumeOfFamily_102 hl (k := 4) rfl rfl (by decide) rfl (fun ls hl => ?_)
                  refine lv_goto (tgt := 17) hx hb dX7_volumeOfFamily_105 (by decide) ?_
                  exact ih17 (v17_0 + (vo v17_1.toNatClampNeg)) (v17_1 + (1 : Int32)) (upd v17_2 v17_1.toNatClampNeg (vp_nar .boolean (0 : Int32))) _ _ _ hf hP hD hS (lv_sub hl [3, 4, 1, 0] rfl)
              · have hf := ifn hf c_18
                refine lv_iconst (v := (1 : Int32)) hx hb dX7_volumeOfFamily_72 (by decide) ?_
                refine lv_goto (tgt := 77) hx hb dX7_volumeOfFamily_73 (by decide) ?_
                obtain ⟨h_23, hf⟩ := ibk hf
                refine va_zast hx hb hK hP hD hS 4 3 rfl rfl (ib_in h_23) dX7_volumeOfFamily_77 (fun H locs hP hD hS => ?_)
                have hP : va_P D vwCl [(atb, .inr (6, [.ref tp, .ref tw, .ref tv, .ref tf, .ref aq, .int sa, .long lo])), (tp, .inl (y 1, 121, .inl pa)), (tw, .inl (y 1, 121, .inl we)), (tv, .inl (y 2, 121, .inr (.inl vo))), (tf, .inl (y 3, 121, .inl (upd v17_2 v17_1.toNatClampNeg (vp_nar .boolean (1 : Int32))))), (aq, .inr (3, [.ref u0, .ref u1, .ref u2, .ref u3, .ref u4, .int qn])), (u0, .inl (y 1, 256, .inl qs)), (u1, .inl (y 2, 256, .inr (.inl ql))), (u2, .inl (y 1, 256, .inl qt)), (u3, .inl (y 1, 256, .inl qw)), (u4, .inl (y 2, 256, .inr (.inl qv)))] H := hP
                have hD : va_D A [(atb, .inr (6, [.ref tp, .ref tw, .ref tv, .ref tf, .ref aq, .int sa, .long lo])), (tp, .inl (y 1, 121, .inl pa)), (tw, .inl (y 1, 121, .inl we)), (tv, .inl (y 2, 121, .inr (.inl vo))), (tf, .inl (y 3, 121, .inl (upd v17_2 v17_1.toNatClampNeg (vp_nar .boolean (1 : Int32))))), (aq, .inr (3, [.ref u0, .ref u1, .ref u2, .ref u3, .ref u4, .int qn])), (u0, .inl (y 1, 256, .inl qs)), (u1, .inl (y 2, 256, .inr (.inl ql))), (u2, .inl (y 1, 256, .inl qt)), (u3, .inl (y 1, 256, .inl qw)), (u4, .inl (y 2, 256, .inr (.inl qv)))] := hD
                refine lv_lload_n hx hb dX7_volumeOfFamily_78 rfl (lv_at hl 3 rfl) ?_
                refine lv_aload_n hx hb dX7_volumeOfFamily_79 rfl (lv_at hl 1 rfl) ?_
                refine va_get (D := D) (ci := 6) (v := .ref tf) (C := RX7) (T := TX7) (N := 7) hx hb hts iX7 hown hK hP 0 rfl rfl 3 (by decide) (hts (.fieldLink RX7 22 "SampleTracker$Table" "inFamily" "[Z") (by decide +kernel)) (fun _ h9 => h9) rfl dX7_volumeOfFamily_80 ?_
                refine lv_iload hx hb dX7_volumeOfFamily_83 (lv_at hl 4 rfl) ?_
                refine va_zald hx hb hK hP 4 3 rfl rfl (ib_in h_23) dX7_volumeOfFamily_85 ?_
                refine lv_if_eq (tgt := 99) hx hb dX7_volumeOfFamily_86 (by decide) (fun c_25 => ?_) (fun c_25 => ?_)
                · have hf := ifp hf c_25
                  refine lv_lconst (v := (0 : Int64)) hx hb dX7_volumeOfFamily_99 (by decide) ?_
                  refine lv_ladd hx hb dX7_volumeOfFamily_100 ?_
                  refine lv_lstore_n (lv' := [(2, .long (v17_0 + (0 : Int64))), (5, .int r_3), (0, .ref atb), (1, .int p1), (4, .int v17_1)]) hx hb dX7_volumeOfFamily_101 rfl hl (by decide) rfl (fun ls hl => ?_)
                  refine lv_iinc (v := (v17_1 + (1 : Int32))) (lv' := [(4, .int (v17_1 + (1 : Int32))), (2, .long (v17_0 + (0 : Int64))), (5, .int r_3), (0, .ref atb), (1, .int p1)]) hx hb dX7_volumeOfFamily_102 hl (k := 4) rfl rfl (by decide) rfl (fun ls hl => ?_)
                  refine lv_goto (tgt := 17) hx hb dX7_volumeOfFamily_105 (by decide) ?_
                  exact ih17 (v17_0 + (0 : Int64)) (v17_1 + (1 : Int32)) (upd v17_2 v17_1.toNatClampNeg (vp_nar .boolean (1 : Int32))) _ _ _ hf hP hD hS (lv_sub hl [3, 4, 1, 0] rfl)
                · have hf := ifn hf c_25
                  refine lv_aload_n hx hb dX7_volumeOfFamily_89 rfl (lv_at hl 1 rfl) ?_
                  refine va_get (D := D) (ci := 6) (v := .ref tv) (C := RX7) (T := TX7) (N := 7) hx hb hts iX7 hown hK hP 0 rfl rfl 2 (by decide) (hts (.fieldLink RX7 18 "SampleTracker$Table" "volumes" "[J") (by decide +kernel)) (fun _ h9 => h9) rfl dX7_volumeOfFamily_90 ?_
                  refine lv_iload hx hb dX7_volumeOfFamily_93 (lv_at hl 4 rfl) ?_
                  refine va_lald hx hb hK hP 3 2 rfl rfl (ib_in h_23) dX7_volumeOfFamily_95 ?_
                  refine lv_goto (tgt := 100) hx hb dX7_volumeOfFamily_96 (by decide) ?_
                  refine lv_ladd hx hb dX7_volumeOfFamily_100 ?_
                  refine lv_lstore_n (lv' := [(2, .long (v17_0 + (vo v17_1.toNatClampNeg))), (5, .int r_3), (0, .ref atb), (1, .int p1), (4, .int v17_1)]) hx hb dX7_volumeOfFamily_101 rfl hl (by decide) rfl (fun ls hl => ?_)
                  refine lv_iinc (v := (v17_1 + (1 : Int32))) (lv' := [(4, .int (v17_1 + (1 : Int32))), (2, .long (v17_0 + (vo v17_1.toNatClampNeg))), (5, .int r_3), (0, .ref atb), (1, .int p1)]) hx hb dX7_volumeOfFamily_102 hl (k := 4) rfl rfl (by decide) rfl (fun ls hl => ?_)
                  refine lv_goto (tgt := 17) hx hb dX7_volumeOfFamily_105 (by decide) ?_
                  exact ih17 (v17_0 + (vo v17_1.toNatClampNeg)) (v17_1 + (1 : Int32)) (upd v17_2 v17_1.toNatClampNeg (vp_nar .boolean (1 : Int32))) _ _ _ hf hP hD hS (lv_sub hl [3, 4, 1, 0] rfl)
  unfold fX7_volumeOfFamily at hf
  refine lv_aload_n hx hb dX7_volumeOfFamily_0 rfl (lv_at hl 0 rfl) ?_
  refine lv_iload_n hx hb dX7_volumeOfFamily_1 rfl (lv_at hl 1 rfl) ?_
  obtain ⟨r_27, hc_28, hf⟩ := obd hf
  refine ct_V (As := [.int p1]) (rest := []) (wr := []) (wn := [(atb, .inr (6, [.ref tp, .ref tw, .ref tv, .ref tf, .ref aq, .int sa, .long lo])), (tp, .inl (y 1, 121, .inl pa)), (tw, .inl (y 1, 121, .inl we)), (tv, .inl (y 2, 121, .inr (.inl vo))), (tf, .inl (y 3, 121, .inl fm)), (aq, .inr (3, [.ref u0, .ref u1, .ref u2, .ref u3, .ref u4, .int qn])), (u0, .inl (y 1, 256, .inl qs)), (u1, .inl (y 2, 256, .inr (.inl ql))), (u2, .inl (y 1, 256, .inl qt)), (u3, .inl (y 1, 256, .inl qw)), (u4, .inl (y 2, 256, .inr (.inl qv)))]) hfix (cX7_isSample_ok l D y atb tp tw tv tf aq u0 u1 u2 u3 u4 pa we vo fm sa lo qs ql qt qw qv qn p1 _ hc_28) (cwV 1 hts gX7_volumeOfFamily_X7_isSample rfl rfl rfl (by decide +kernel) ⟨Nat.le_of_ble_eq_true rfl, Nat.le_of_ble_eq_true rfl⟩) E hP hD hS [0, 1, 2, 3, 4, 5, 6, 7, 8, 9, 10] [] [0, 1, 2, 3, 4, 5, 6, 7, 8, 9, 10] rfl rfl rfl rfl (by decide) rfl rfl 0 6 rfl rfl rfl hl.1 rfl (Nat.le_of_ble_eq_true rfl) dX7_volumeOfFamily_2 ⟨Nat.zero_le _, Nat.zero_le _⟩ (fun H locs hP hD hS => ?_)
  refine W.eq (g2 := F0 m 5 ls [.int (zb r_27)]) rfl ?_
  refine lv_if_ne (tgt := 12) hx hb dX7_volumeOfFamily_5 (by decide) (fun c_29 => ?_) (fun c_29 => ?_)
  · have hf := ifn hf c_29
    refine lv_lconst (v := (0 : Int64)) hx hb dX7_volumeOfFamily_12 (by decide) ?_
    refine lv_lstore_n (lv' := [(2, .long (0 : Int64)), (0, .ref atb), (1, .int p1)]) hx hb dX7_volumeOfFamily_13 rfl hl (by decide) rfl (fun ls hl => ?_)
    refine lv_iconst (v := (1 : Int32)) hx hb dX7_volumeOfFamily_14 (by decide) ?_
    refine lv_istore (lv' := [(4, .int (1 : Int32)), (2, .long (0 : Int64)), (0, .ref atb), (1, .int p1)]) hx hb dX7_volumeOfFamily_15 hl (by decide) rfl (fun ls hl => ?_)
    exact hL17 FU (0 : Int64) (1 : Int32) fm _ _ _ hf hP hD hS (lv_sub hl [2, 3, 1, 0] rfl)
  · have hf := ifp hf c_29
    refine lv_ldc2 (v := (-1 : Int64)) hx hb hown (hts (.constantLong RX7 49 (-1 : Int64)) (by decide +kernel)) dX7_volumeOfFamily_8 ?_
    obtain rfl := Option.some.inj hf
    exact W.lret hx hb hr (fun t ht hW => ⟨⟨(), rfl, by rw [ht]; exact hP, hD⟩, hS.F ht⟩) hS.2.2 dX7_volumeOfFamily_11

set_option maxHeartbeats 4000000 in
set_option maxRecDepth 100000 in
theorem cX7_pastActs_ok (l : Launch) (D : va_G) (y : Nat → ClassId) (atb : Nat) (tp : Nat) (tw : Nat) (tv : Nat) (tf : Nat) (aq : Nat) (u0 : Nat) (u1 : Nat) (u2 : Nat) (u3 : Nat) (u4 : Nat) (pa : Nat → Int32) (we : Nat → Int32) (vo : Nat → Int64) (fm : Nat → Int32) (sa : Int32) (lo : Int64) (qs : Nat → Int32) (ql : Nat → Int64) (qt : Nat → Int32) (qw : Nat → Int32) (qv : Nat → Int64) (qn : Int32) : CT l D y yX7_pastActs wsX7_pastActs ({ frames := 1, cells := 0, slots := 0, locals := 20 } : Room) [.ref atb] [(atb, .inr (6, [.ref tp, .ref tw, .ref tv, .ref tf, .ref aq, .int sa, .long lo])), (tp, .inl (y 1, 121, .inl pa)), (tw, .inl (y 1, 121, .inl we)), (tv, .inl (y 2, 121, .inr (.inl vo))), (tf, .inl (y 3, 121, .inl fm)), (aq, .inr (3, [.ref u0, .ref u1, .ref u2, .ref u3, .ref u4, .int qn])), (u0, .inl (y 1, 256, .inl qs)), (u1, .inl (y 2, 256, .inr (.inl ql))), (u2, .inl (y 1, 256, .inl qt)), (u3, .inl (y 1, 256, .inl qw)), (u4, .inl (y 2, 256, .inr (.inl qv)))] (some (.int qn)) [(atb, .inr (6, [.ref tp, .ref tw, .ref tv, .ref tf, .ref aq, .int sa, .long lo])), (tp, .inl (y 1, 121, .inl pa)), (tw, .inl (y 1, 121, .inl we)), (tv, .inl (y 2, 121, .inr (.inl vo))), (tf, .inl (y 3, 121, .inl fm)), (aq, .inr (3, [.ref u0, .ref u1, .ref u2, .ref u3, .ref u4, .int qn])), (u0, .inl (y 1, 256, .inl qs)), (u1, .inl (y 2, 256, .inr (.inl ql))), (u2, .inl (y 1, 256, .inl qt)), (u3, .inl (y 1, 256, .inl qw)), (u4, .inl (y 2, 256, .inr (.inl qv)))] := by
  intro sz
  refine Met.ofW (cc := cX7_pastActs) (maxL := 1) (ret := (some .int)) (by decide) rfl ?_
  intro p e s m args below meth c s₁ B hml hv
  obtain ⟨rfl, hsz, hP, hK, hD0, hst, hno⟩ := hv
  have hx := B.exec
  have hb := B.bytes
  have hr := B.returns
  have hts := atoms_spec (ws := wsX7_pastActs) B.pre
  have hown : s.vm.findClass RX7 = some m.cls := findClass_of_methodNamed B.named
  have hlocks := B.notSynchronized
  subst hsz
  have hD := hD0.self (sz := s.heap.size)
  generalize hAe : va_A [(atb, .inr (6, [.ref tp, .ref tw, .ref tv, .ref tf, .ref aq, .int sa, .long lo])), (tp, .inl (y 1, 121, .inl pa)), (tw, .inl (y 1, 121, .inl we)), (tv, .inl (y 2, 121, .inr (.inl vo))), (tf, .inl (y 3, 121, .inl fm)), (aq, .inr (3, [.ref u0, .ref u1, .ref u2, .ref u3, .ref u4, .int qn])), (u0, .inl (y 1, 256, .inl qs)), (u1, .inl (y 2, 256, .inr (.inl ql))), (u2, .inl (y 1, 256, .inl qt)), (u3, .inl (y 1, 256, .inl qw)), (u4, .inl (y 2, 256, .inr (.inl qv)))] s.heap.size = A at hD hst ⊢
  have hA : ∀ q : Nat, s.heap.size ≤ q → A q := fun q h => by rw [← hAe]; exact Or.inr h
  have hS : va_S A s.heap s.heap [] := va_S.rf
  have E : Ev D y A s := ⟨hK, hst, hno, hA⟩
  have hfix : CallFix p m c cX7_pastActs 1 s _ wsX7_pastActs RX7 := ⟨hx, hb, hml, hown, hts⟩
  have hP : va_P D vwCl [(atb, .inr (6, [.ref tp, .ref tw, .ref tv, .ref tf, .ref aq, .int sa, .long lo])), (tp, .inl (y 1, 121, .inl pa)), (tw, .inl (y 1, 121, .inl we)), (tv, .inl (y 2, 121, .inr (.inl vo))), (tf, .inl (y 3, 121, .inl fm)), (aq, .inr (3, [.ref u0, .ref u1, .ref u2, .ref u3, .ref u4, .int qn])), (u0, .inl (y 1, 256, .inl qs)), (u1, .inl (y 2, 256, .inr (.inl ql))), (u2, .inl (y 1, 256, .inl qt)), (u3, .inl (y 1, 256, .inl qw)), (u4, .inl (y 2, 256, .inr (.inl qv)))] s.heap := hP
  have iX7 : ∀ w ∈ wsX70, w ∈ wsX7_pastActs := by decide +kernel
  have hl := lv_entry ([.ref atb]) (n := 1) (Nat.le_of_ble_eq_true rfl)
  rw [lg_entry_eq]
  generalize (lg_sl ([.ref atb]) ++ List.replicate (1 - (lg_sl ([.ref atb])).length) Slot.unset).toArray = ls at hl ⊢
  have hl : lv_has ls 1 [(0, .ref atb)] := hl
  refine lv_aload_n hx hb dX7_pastActs_0 rfl (lv_at hl 0 rfl) ?_
  refine va_get (D := D) (ci := 6) (v := .ref aq) (C := RX7) (T := TX7) (N := 7) hx hb hts iX7 hown hK hP 0 rfl rfl 4 (by decide) (hts (.fieldLink RX7 29 "SampleTracker$Table" "past" "LSampleTracker$Past;") (by decide +kernel)) (fun _ h9 => h9) rfl dX7_pastActs_1 ?_
  refine ct_V (As := []) (rest := []) (wr := [(atb, .inr (6, [.ref tp, .ref tw, .ref tv, .ref tf, .ref aq, .int sa, .long lo])), (tp, .inl (y 1, 121, .inl pa)), (tw, .inl (y 1, 121, .inl we)), (tv, .inl (y 2, 121, .inr (.inl vo))), (tf, .inl (y 3, 121, .inl fm))]) (wn := [(atb, .inr (6, [.ref tp, .ref tw, .ref tv, .ref tf, .ref aq, .int sa, .long lo])), (tp, .inl (y 1, 121, .inl pa)), (tw, .inl (y 1, 121, .inl we)), (tv, .inl (y 2, 121, .inr (.inl vo))), (tf, .inl (y 3, 121, .inl fm)), (aq, .inr (3, [.ref u0, .ref u1, .ref u2, .ref u3, .ref u4, .int qn])), (u0, .inl (y 1, 256, .inl qs)), (u1, .inl (y 2, 256, .inr (.inl ql))), (u2, .inl (y 1, 256, .inl qt)), (u3, .inl (y 1, 256, .inl qw)), (u4, .inl (y 2, 256, .inr (.inl qv)))]) hfix (cX4_size_ok l D y aq u0 u1 u2 u3 u4 qs ql qt qw qv qn) (cwV 0 hts gX7_pastActs_X4_size rfl rfl rfl (by decide +kernel) ⟨Nat.le_of_ble_eq_true rfl, Nat.le_of_ble_eq_true rfl⟩) E hP hD hS [5, 6, 7, 8, 9, 10] [0, 1, 2, 3, 4] [0, 1, 2, 3, 4, 5, 6, 7, 8, 9, 10] rfl rfl rfl rfl (by decide) rfl rfl 0 3 rfl rfl rfl hl.1 rfl (Nat.le_of_ble_eq_true rfl) dX7_pastActs_4 ⟨Nat.zero_le _, Nat.zero_le _⟩ (fun H locs hP hD hS => ?_)
  refine W.eq (g2 := F0 m 7 ls [.int qn]) rfl ?_
  exact W.iret hx hb hr (fun t ht hW => ⟨⟨(), rfl, by rw [ht]; exact hP, hD⟩, hS.F ht⟩) hS.2.2 dX7_pastActs_7

set_option maxHeartbeats 4000000 in
set_option maxRecDepth 100000 in
theorem cX7_forgetPast_ok (l : Launch) (D : va_G) (y : Nat → ClassId) (atb : Nat) (tp : Nat) (tw : Nat) (tv : Nat) (tf : Nat) (aq : Nat) (u0 : Nat) (u1 : Nat) (u2 : Nat) (u3 : Nat) (u4 : Nat) (pa : Nat → Int32) (we : Nat → Int32) (vo : Nat → Int64) (fm : Nat → Int32) (sa : Int32) (lo : Int64) (qs : Nat → Int32) (ql : Nat → Int64) (qt : Nat → Int32) (qw : Nat → Int32) (qv : Nat → Int64) (qn : Int32) : CT l D y yX7_forgetPast wsX7_forgetPast ({ frames := 1, cells := 0, slots := 0, locals := 20 } : Room) [.ref atb] [(atb, .inr (6, [.ref tp, .ref tw, .ref tv, .ref tf, .ref aq, .int sa, .long lo])), (tp, .inl (y 1, 121, .inl pa)), (tw, .inl (y 1, 121, .inl we)), (tv, .inl (y 2, 121, .inr (.inl vo))), (tf, .inl (y 3, 121, .inl fm)), (aq, .inr (3, [.ref u0, .ref u1, .ref u2, .ref u3, .ref u4, .int qn])), (u0, .inl (y 1, 256, .inl qs)), (u1, .inl (y 2, 256, .inr (.inl ql))), (u2, .inl (y 1, 256, .inl qt)), (u3, .inl (y 1, 256, .inl qw)), (u4, .inl (y 2, 256, .inr (.inl qv)))] (none) [(atb, .inr (6, [.ref tp, .ref tw, .ref tv, .ref tf, .ref aq, .int sa, .long lo])), (tp, .inl (y 1, 121, .inl pa)), (tw, .inl (y 1, 121, .inl we)), (tv, .inl (y 2, 121, .inr (.inl vo))), (tf, .inl (y 3, 121, .inl fm)), (aq, .inr (3, [.ref u0, .ref u1, .ref u2, .ref u3, .ref u4, .int (0 : Int32)])), (u0, .inl (y 1, 256, .inl qs)), (u1, .inl (y 2, 256, .inr (.inl ql))), (u2, .inl (y 1, 256, .inl qt)), (u3, .inl (y 1, 256, .inl qw)), (u4, .inl (y 2, 256, .inr (.inl qv)))] := by
  intro sz
  refine Met.ofW (cc := cX7_forgetPast) (maxL := 1) (ret := none) (by decide) rfl ?_
  intro p e s m args below meth c s₁ B hml hv
  obtain ⟨rfl, hsz, hP, hK, hD0, hst, hno⟩ := hv
  have hx := B.exec
  have hb := B.bytes
  have hr := B.returns
  have hts := atoms_spec (ws := wsX7_forgetPast) B.pre
  have hown : s.vm.findClass RX7 = some m.cls := findClass_of_methodNamed B.named
  have hlocks := B.notSynchronized
  subst hsz
  have hD := hD0.self (sz := s.heap.size)
  generalize hAe : va_A [(atb, .inr (6, [.ref tp, .ref tw, .ref tv, .ref tf, .ref aq, .int sa, .long lo])), (tp, .inl (y 1, 121, .inl pa)), (tw, .inl (y 1, 121, .inl we)), (tv, .inl (y 2, 121, .inr (.inl vo))), (tf, .inl (y 3, 121, .inl fm)), (aq, .inr (3, [.ref u0, .ref u1, .ref u2, .ref u3, .ref u4, .int qn])), (u0, .inl (y 1, 256, .inl qs)), (u1, .inl (y 2, 256, .inr (.inl ql))), (u2, .inl (y 1, 256, .inl qt)), (u3, .inl (y 1, 256, .inl qw)), (u4, .inl (y 2, 256, .inr (.inl qv)))] s.heap.size = A at hD hst ⊢
  have hA : ∀ q : Nat, s.heap.size ≤ q → A q := fun q h => by rw [← hAe]; exact Or.inr h
  have hS : va_S A s.heap s.heap [] := va_S.rf
  have E : Ev D y A s := ⟨hK, hst, hno, hA⟩
  have hfix : CallFix p m c cX7_forgetPast 1 s _ wsX7_forgetPast RX7 := ⟨hx, hb, hml, hown, hts⟩
  have hP : va_P D vwCl [(atb, .inr (6, [.ref tp, .ref tw, .ref tv, .ref tf, .ref aq, .int sa, .long lo])), (tp, .inl (y 1, 121, .inl pa)), (tw, .inl (y 1, 121, .inl we)), (tv, .inl (y 2, 121, .inr (.inl vo))), (tf, .inl (y 3, 121, .inl fm)), (aq, .inr (3, [.ref u0, .ref u1, .ref u2, .ref u3, .ref u4, .int qn])), (u0, .inl (y 1, 256, .inl qs)), (u1, .inl (y 2, 256, .inr (.inl ql))), (u2, .inl (y 1, 256, .inl qt)), (u3, .inl (y 1, 256, .inl qw)), (u4, .inl (y 2, 256, .inr (.inl qv)))] s.heap := hP
  have iX7 : ∀ w ∈ wsX70, w ∈ wsX7_forgetPast := by decide +kernel
  have hl := lv_entry ([.ref atb]) (n := 1) (Nat.le_of_ble_eq_true rfl)
  rw [lg_entry_eq]
  generalize (lg_sl ([.ref atb]) ++ List.replicate (1 - (lg_sl ([.ref atb])).length) Slot.unset).toArray = ls at hl ⊢
  have hl : lv_has ls 1 [(0, .ref atb)] := hl
  refine lv_aload_n hx hb dX7_forgetPast_0 rfl (lv_at hl 0 rfl) ?_
  refine va_get (D := D) (ci := 6) (v := .ref aq) (C := RX7) (T := TX7) (N := 7) hx hb hts iX7 hown hK hP 0 rfl rfl 4 (by decide) (hts (.fieldLink RX7 29 "SampleTracker$Table" "past" "LSampleTracker$Past;") (by decide +kernel)) (fun _ h9 => h9) rfl dX7_forgetPast_1 ?_
  refine ct_V (As := []) (rest := []) (wr := [(atb, .inr (6, [.ref tp, .ref tw, .ref tv, .ref tf, .ref aq, .int sa, .long lo])), (tp, .inl (y 1, 121, .inl pa)), (tw, .inl (y 1, 121, .inl we)), (tv, .inl (y 2, 121, .inr (.inl vo))), (tf, .inl (y 3, 121, .inl fm))]) (wn := [(atb, .inr (6, [.ref tp, .ref tw, .ref tv, .ref tf, .ref aq, .int sa, .long lo])), (tp, .inl (y 1, 121, .inl pa)), (tw, .inl (y 1, 121, .inl we)), (tv, .inl (y 2, 121, .inr (.inl vo))), (tf, .inl (y 3, 121, .inl fm)), (aq, .inr (3, [.ref u0, .ref u1, .ref u2, .ref u3, .ref u4, .int (0 : Int32)])), (u0, .inl (y 1, 256, .inl qs)), (u1, .inl (y 2, 256, .inr (.inl ql))), (u2, .inl (y 1, 256, .inl qt)), (u3, .inl (y 1, 256, .inl qw)), (u4, .inl (y 2, 256, .inr (.inl qv)))]) hfix (cX4_forget_ok l D y aq u0 u1 u2 u3 u4 qs ql qt qw qv qn) (cwV 0 hts gX7_forgetPast_X4_forget rfl rfl rfl (by decide +kernel) ⟨Nat.le_of_ble_eq_true rfl, Nat.le_of_ble_eq_true rfl⟩) E hP hD hS [5, 6, 7, 8, 9, 10] [0, 1, 2, 3, 4] [0, 1, 2, 3, 4, 5, 6, 7, 8, 9, 10] rfl rfl rfl rfl (by decide) rfl rfl 0 3 rfl rfl rfl hl.1 rfl (Nat.le_of_ble_eq_true rfl) dX7_forgetPast_4 ⟨Nat.zero_le _, Nat.zero_le _⟩ (fun H locs hP hD hS => ?_)
  refine W.eq (g2 := F0 m 7 ls []) rfl ?_
  exact W.vret hx hb hr (fun t ht hW => ⟨⟨(), rfl, by rw [ht]; exact hP, hD⟩, hS.F ht⟩) hS.2.2 dX7_forgetPast_7

set_option maxHeartbeats 4000000 in
set_option maxRecDepth 100000 in
theorem cX7_makeEmpty_ok (l : Launch) (D : va_G) (y : Nat → ClassId) (atb : Nat) (tp : Nat) (tw : Nat) (tv : Nat) (tf : Nat) (aq : Nat) (u0 : Nat) (u1 : Nat) (u2 : Nat) (u3 : Nat) (u4 : Nat) (pa : Nat → Int32) (we : Nat → Int32) (vo : Nat → Int64) (fm : Nat → Int32) (sa : Int32) (lo : Int64) (qs : Nat → Int32) (ql : Nat → Int64) (qt : Nat → Int32) (qw : Nat → Int32) (qv : Nat → Int64) (qn : Int32) : CT l D y yX7_makeEmpty wsX7_makeEmpty ({ frames := 1, cells := 0, slots := 0, locals := 20 } : Room) [.ref atb] [(atb, .inr (6, [.ref tp, .ref tw, .ref tv, .ref tf, .ref aq, .int sa, .long lo])), (tp, .inl (y 1, 121, .inl pa)), (tw, .inl (y 1, 121, .inl we)), (tv, .inl (y 2, 121, .inr (.inl vo))), (tf, .inl (y 3, 121, .inl fm)), (aq, .inr (3, [.ref u0, .ref u1, .ref u2, .ref u3, .ref u4, .int qn])), (u0, .inl (y 1, 256, .inl qs)), (u1, .inl (y 2, 256, .inr (.inl ql))), (u2, .inl (y 1, 256, .inl qt)), (u3, .inl (y 1, 256, .inl qw)), (u4, .inl (y 2, 256, .inr (.inl qv)))] (none) [(atb, .inr (6, [.ref tp, .ref tw, .ref tv, .ref tf, .ref aq, .int (0 : Int32), .long (0 : Int64)])), (tp, .inl (y 1, 121, .inl pa)), (tw, .inl (y 1, 121, .inl we)), (tv, .inl (y 2, 121, .inr (.inl vo))), (tf, .inl (y 3, 121, .inl fm)), (aq, .inr (3, [.ref u0, .ref u1, .ref u2, .ref u3, .ref u4, .int (0 : Int32)])), (u0, .inl (y 1, 256, .inl qs)), (u1, .inl (y 2, 256, .inr (.inl ql))), (u2, .inl (y 1, 256, .inl qt)), (u3, .inl (y 1, 256, .inl qw)), (u4, .inl (y 2, 256, .inr (.inl qv)))] := by
  intro sz
  refine Met.ofW (cc := cX7_makeEmpty) (maxL := 1) (ret := none) (by decide) rfl ?_
  intro p e s m args below meth c s₁ B hml hv
  obtain ⟨rfl, hsz, hP, hK, hD0, hst, hno⟩ := hv
  have hx := B.exec
  have hb := B.bytes
  have hr := B.returns
  have hts := atoms_spec (ws := wsX7_makeEmpty) B.pre
  have hown : s.vm.findClass RX7 = some m.cls := findClass_of_methodNamed B.named
  have hlocks := B.notSynchronized
  subst hsz
  have hD := hD0.self (sz := s.heap.size)
  generalize hAe : va_A [(atb, .inr (6, [.ref tp, .ref tw, .ref tv, .ref tf, .ref aq, .int sa, .long lo])), (tp, .inl (y 1, 121, .inl pa)), (tw, .inl (y 1, 121, .inl we)), (tv, .inl (y 2, 121, .inr (.inl vo))), (tf, .inl (y 3, 121, .inl fm)), (aq, .inr (3, [.ref u0, .ref u1, .ref u2, .ref u3, .ref u4, .int qn])), (u0, .inl (y 1, 256, .inl qs)), (u1, .inl (y 2, 256, .inr (.inl ql))), (u2, .inl (y 1, 256, .inl qt)), (u3, .inl (y 1, 256, .inl qw)), (u4, .inl (y 2, 256, .inr (.inl qv)))] s.heap.size = A at hD hst ⊢
  have hA : ∀ q : Nat, s.heap.size ≤ q → A q := fun q h => by rw [← hAe]; exact Or.inr h
  have hS : va_S A s.heap s.heap [] := va_S.rf
  have E : Ev D y A s := ⟨hK, hst, hno, hA⟩
  have hfix : CallFix p m c cX7_makeEmpty 1 s _ wsX7_makeEmpty RX7 := ⟨hx, hb, hml, hown, hts⟩
  have hP : va_P D vwCl [(atb, .inr (6, [.ref tp, .ref tw, .ref tv, .ref tf, .ref aq, .int sa, .long lo])), (tp, .inl (y 1, 121, .inl pa)), (tw, .inl (y 1, 121, .inl we)), (tv, .inl (y 2, 121, .inr (.inl vo))), (tf, .inl (y 3, 121, .inl fm)), (aq, .inr (3, [.ref u0, .ref u1, .ref u2, .ref u3, .ref u4, .int qn])), (u0, .inl (y 1, 256, .inl qs)), (u1, .inl (y 2, 256, .inr (.inl ql))), (u2, .inl (y 1, 256, .inl qt)), (u3, .inl (y 1, 256, .inl qw)), (u4, .inl (y 2, 256, .inr (.inl qv)))] s.heap := hP
  have iX7 : ∀ w ∈ wsX70, w ∈ wsX7_makeEmpty := by decide +kernel
  have hl := lv_entry ([.ref atb]) (n := 1) (Nat.le_of_ble_eq_true rfl)
  rw [lg_entry_eq]
  generalize (lg_sl ([.ref atb]) ++ List.replicate (1 - (lg_sl ([.ref atb])).length) Slot.unset).toArray = ls at hl ⊢
  have hl : lv_has ls 1 [(0, .ref atb)] := hl
  refine lv_aload_n hx hb dX7_makeEmpty_0 rfl (lv_at hl 0 rfl) ?_
  refine lv_iconst (v := (0 : Int32)) hx hb dX7_makeEmpty_1 (by decide) ?_
  refine va_put (D := D) (ci := 6) (v := .int (0 : Int32)) (ty := .int) (C := RX7) (T := TX7) (N := 7) hx hb hts iX7 tyX7 tyX7_ok nmX7 hown hK hP hD hS 0 rfl rfl 5 (by decide) (hts (.fieldLink RX7 33 "SampleTracker$Table" "samples" "I") (by decide +kernel)) (fun _ h9 => h9) rfl (by decide +kernel) rfl rfl (Nat.le_of_ble_eq_true rfl) dX7_makeEmpty_2 (fun H locs hP hD hS => ?_)
  have hP : va_P D vwCl [(atb, .inr (6, [.ref tp, .ref tw, .ref tv, .ref tf, .ref aq, .int (0 : Int32), .long lo])), (tp, .inl (y 1, 121, .inl pa)), (tw, .inl (y 1, 121, .inl we)), (tv, .inl (y 2, 121, .inr (.inl vo))), (tf, .inl (y 3, 121, .inl fm)), (aq, .inr (3, [.ref u0, .ref u1, .ref u2, .ref u3, .ref u4, .int qn])), (u0, .inl (y 1, 256, .inl qs)), (u1, .inl (y 2, 256, .inr (.inl ql))), (u2, .inl (y 1, 256, .inl qt)), (u3, .inl (y 1, 256, .inl qw)), (u4, .inl (y 2, 256, .inr (.inl qv)))] H := hP
  have hD : va_D A [(atb, .inr (6, [.ref tp, .ref tw, .ref tv, .ref tf, .ref aq, .int (0 : Int32), .long lo])), (tp, .inl (y 1, 121, .inl pa)), (tw, .inl (y 1, 121, .inl we)), (tv, .inl (y 2, 121, .inr (.inl vo))), (tf, .inl (y 3, 121, .inl fm)), (aq, .inr (3, [.ref u0, .ref u1, .ref u2, .ref u3, .ref u4, .int qn])), (u0, .inl (y 1, 256, .inl qs)), (u1, .inl (y 2, 256, .inr (.inl ql))), (u2, .inl (y 1, 256, .inl qt)), (u3, .inl (y 1, 256, .inl qw)), (u4, .inl (y 2, 256, .inr (.inl qv)))] := hD
  refine lv_aload_n hx hb dX7_makeEmpty_5 rfl (lv_at hl 0 rfl) ?_
  refine lv_lconst (v := (0 : Int64)) hx hb dX7_makeEmpty_6 (by decide) ?_
  refine va_put (D := D) (ci := 6) (v := .long (0 : Int64)) (ty := .long) (C := RX7) (T := TX7) (N := 7) hx hb hts iX7 tyX7 tyX7_ok nmX7 hown hK hP hD hS 0 rfl rfl 6 (by decide) (hts (.fieldLink RX7 37 "SampleTracker$Table" "lost" "J") (by decide +kernel)) (fun _ h9 => h9) rfl (by decide +kernel) rfl rfl (Nat.le_of_ble_eq_true rfl) dX7_makeEmpty_7 (fun H locs hP hD hS => ?_)
  have hP : va_P D vwCl [(atb, .inr (6, [.ref tp, .ref tw, .ref tv, .ref tf, .ref aq, .int (0 : Int32), .long (0 : Int64)])), (tp, .inl (y 1, 121, .inl pa)), (tw, .inl (y 1, 121, .inl we)), (tv, .inl (y 2, 121, .inr (.inl vo))), (tf, .inl (y 3, 121, .inl fm)), (aq, .inr (3, [.ref u0, .ref u1, .ref u2, .ref u3, .ref u4, .int qn])), (u0, .inl (y 1, 256, .inl qs)), (u1, .inl (y 2, 256, .inr (.inl ql))), (u2, .inl (y 1, 256, .inl qt)), (u3, .inl (y 1, 256, .inl qw)), (u4, .inl (y 2, 256, .inr (.inl qv)))] H := hP
  have hD : va_D A [(atb, .inr (6, [.ref tp, .ref tw, .ref tv, .ref tf, .ref aq, .int (0 : Int32), .long (0 : Int64)])), (tp, .inl (y 1, 121, .inl pa)), (tw, .inl (y 1, 121, .inl we)), (tv, .inl (y 2, 121, .inr (.inl vo))), (tf, .inl (y 3, 121, .inl fm)), (aq, .inr (3, [.ref u0, .ref u1, .ref u2, .ref u3, .ref u4, .int qn])), (u0, .inl (y 1, 256, .inl qs)), (u1, .inl (y 2, 256, .inr (.inl ql))), (u2, .inl (y 1, 256, .inl qt)), (u3, .inl (y 1, 256, .inl qw)), (u4, .inl (y 2, 256, .inr (.inl qv)))] := hD
  refine lv_aload_n hx hb dX7_makeEmpty_10 rfl (lv_at hl 0 rfl) ?_
  refine va_get (D := D) (ci := 6) (v := .ref aq) (C := RX7) (T := TX7) (N := 7) hx hb hts iX7 hown hK hP 0 rfl rfl 4 (by decide) (hts (.fieldLink RX7 29 "SampleTracker$Table" "past" "LSampleTracker$Past;") (by decide +kernel)) (fun _ h9 => h9) rfl dX7_makeEmpty_11 ?_
  refine ct_V (As := []) (rest := []) (wr := [(atb, .inr (6, [.ref tp, .ref tw, .ref tv, .ref tf, .ref aq, .int (0 : Int32), .long (0 : Int64)])), (tp, .inl (y 1, 121, .inl pa)), (tw, .inl (y 1, 121, .inl we)), (tv, .inl (y 2, 121, .inr (.inl vo))), (tf, .inl (y 3, 121, .inl fm))]) (wn := [(atb, .inr (6, [.ref tp, .ref tw, .ref tv, .ref tf, .ref aq, .int (0 : Int32), .long (0 : Int64)])), (tp, .inl (y 1, 121, .inl pa)), (tw, .inl (y 1, 121, .inl we)), (tv, .inl (y 2, 121, .inr (.inl vo))), (tf, .inl (y 3, 121, .inl fm)), (aq, .inr (3, [.ref u0, .ref u1, .ref u2, .ref u3, .ref u4, .int (0 : Int32)])), (u0, .inl (y 1, 256, .inl qs)), (u1, .inl (y 2, 256, .inr (.inl ql))), (u2, .inl (y 1, 256, .inl qt)), (u3, .inl (y 1, 256, .inl qw)), (u4, .inl (y 2, 256, .inr (.inl qv)))]) hfix (cX4_forget_ok l D y aq u0 u1 u2 u3 u4 qs ql qt qw qv qn) (cwV 0 hts gX7_makeEmpty_X4_forget rfl rfl rfl (by decide +kernel) ⟨Nat.le_of_ble_eq_true rfl, Nat.le_of_ble_eq_true rfl⟩) E hP hD hS [5, 6, 7, 8, 9, 10] [0, 1, 2, 3, 4] [0, 1, 2, 3, 4, 5, 6, 7, 8, 9, 10] rfl rfl rfl rfl (by decide) rfl rfl 0 3 rfl rfl rfl hl.1 rfl (Nat.le_of_ble_eq_true rfl) dX7_makeEmpty_14 ⟨Nat.zero_le _, Nat.zero_le _⟩ (fun H locs hP hD hS => ?_)
  refine W.eq (g2 := F0 m 17 ls []) rfl ?_
  exact W.vret hx hb hr (fun t ht hW => ⟨⟨(), rfl, by rw [ht]; exact hP, hD⟩, hS.F ht⟩) hS.2.2 dX7_makeEmpty_17

