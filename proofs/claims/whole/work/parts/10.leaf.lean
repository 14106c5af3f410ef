/-! 10.leaf: laid by wip/whole/gen.py: mirrors and contracts -/
set_option maxHeartbeats 4000000 in
set_option maxRecDepth 100000 in
theorem cX6_isUp_ok (l : Launch) (D : va_G) (y : Nat → ClassId) (aw : Nat) (up : Bool) (cw : Bool) (bl : Int32) (wr : Int32) (fa : Int32) : CT l D y yX6_isUp wsX6_isUp ({ frames := 0, cells := 0, slots := 0, locals := 0 } : Room) [.ref aw] [(aw, .inr (5, [.int (zb up), .int (zb cw), .int bl, .int wr, .int fa]))] (some (.int (zb up))) [(aw, .inr (5, [.int (zb up), .int (zb cw), .int bl, .int wr, .int fa]))] := by
  intro sz
  refine Met.ofW (cc := cX6_isUp) (maxL := 1) (ret := (some .boolean)) (by decide) rfl ?_
  intro p e s m args below meth c s₁ B hml hv
  obtain ⟨rfl, hsz, hP, hK, hD0, hst, hno⟩ := hv
  have hx := B.exec
  have hb := B.bytes
  have hr := B.returns
  have hts := atoms_spec (ws := wsX6_isUp) B.pre
  have hown : s.vm.findClass RX6 = some m.cls := findClass_of_methodNamed B.named
  have hlocks := B.notSynchronized
  subst hsz
  have hD := hD0.self (sz := s.heap.size)
  generalize hAe : va_A [(aw, .inr (5, [.int (zb up), .int (zb cw), .int bl, .int wr, .int fa]))] s.heap.size = A at hD hst ⊢
  have hA : ∀ q : Nat, s.heap.size ≤ q → A q := fun q h => by rw [← hAe]; exact Or.inr h
  have hS : va_S A s.heap s.heap [] := va_S.rf
  have E : Ev D y A s := ⟨hK, hst, hno, hA⟩
  have hfix : CallFix p m c cX6_isUp 1 s _ wsX6_isUp RX6 := ⟨hx, hb, hml, hown, hts⟩
  have hP : va_P D vwCl [(aw, .inr (5, [.int (zb up), .int (zb cw), .int bl, .int wr, .int fa]))] s.heap := hP
  have iX6 : ∀ w ∈ wsX60, w ∈ wsX6_isUp := by decide +kernel
  have hl := lv_entry ([.ref aw]) (n := 1) (Nat.le_of_ble_eq_true rfl)
  rw [lg_entry_eq]
  generalize (lg_sl ([.ref aw]) ++ List.replicate (1 - (lg_sl ([.ref aw])).length) Slot.unset).toArray = ls at hl ⊢
  have hl : lv_has ls 1 [(0, .ref aw)] := hl
  refine lv_aload_n hx hb dX6_isUp_0 rfl (lv_at hl 0 rfl) ?_
  refine va_get (D := D) (ci := 5) (v := .int (zb up)) (C := RX6) (T := TX6) (N := 5) hx hb hts iX6 hown hK hP 0 rfl rfl 0 (by decide) (hts (.fieldLink RX6 7 "SampleTracker$Power" "up" "Z") (by decide +kernel)) (fun _ h9 => h9) rfl dX6_isUp_1 ?_
  exact W.zret (ty := .boolean) hx hb hr (zb_nar _) (fun t ht hW => ⟨⟨(), rfl, by rw [ht]; exact hP, hD⟩, hS.F ht⟩) hS.2.2 dX6_isUp_4

set_option maxHeartbeats 4000000 in
set_option maxRecDepth 100000 in
theorem cX6_bytesWritten_ok (l : Launch) (D : va_G) (y : Nat → ClassId) (aw : Nat) (up : Bool) (cw : Bool) (bl : Int32) (wr : Int32) (fa : Int32) : CT l D y yX6_bytesWritten wsX6_bytesWritten ({ frames := 0, cells := 0, slots := 0, locals := 0 } : Room) [.ref aw] [(aw, .inr (5, [.int (zb up), .int (zb cw), .int bl, .int wr, .int fa]))] (some (.int wr)) [(aw, .inr (5, [.int (zb up), .int (zb cw), .int bl, .int wr, .int fa]))] := by
  intro sz
  refine Met.ofW (cc := cX6_bytesWritten) (maxL := 1) (ret := (some .int)) (by decide) rfl ?_
  intro p e s m args below meth c s₁ B hml hv
  obtain ⟨rfl, hsz, hP, hK, hD0, hst, hno⟩ := hv
  have hx := B.exec
  have hb := B.bytes
  have hr := B.returns
  have hts := atoms_spec (ws := wsX6_bytesWritten) B.pre
  have hown : s.vm.findClass RX6 = some m.cls := findClass_of_methodNamed B.named
  have hlocks := B.notSynchronized
  subst hsz
  have hD := hD0.self (sz := s.heap.size)
  generalize hAe : va_A [(aw, .inr (5, [.int (zb up), .int (zb cw), .int bl, .int wr, .int fa]))] s.heap.size = A at hD hst ⊢
  have hA : ∀ q : Nat, s.heap.size ≤ q → A q := fun q h => by rw [← hAe]; exact Or.inr h
  have hS : va_S A s.heap s.heap [] := va_S.rf
  have E : Ev D y A s := ⟨hK, hst, hno, hA⟩
  have hfix : CallFix p m c cX6_bytesWritten 1 s _ wsX6_bytesWritten RX6 := ⟨hx, hb, hml, hown, hts⟩
  have hP : va_P D vwCl [(aw, .inr (5, [.int (zb up), .int (zb cw), .int bl, .int wr, .int fa]))] s.heap := hP
  have iX6 : ∀ w ∈ wsX60, w ∈ wsX6_bytesWritten := by decide +kernel
  have hl := lv_entry ([.ref aw]) (n := 1) (Nat.le_of_ble_eq_true rfl)
  rw [lg_entry_eq]
  generalize (lg_sl ([.ref aw]) ++ List.replicate (1 - (lg_sl ([.ref aw])).length) Slot.unset).toArray = ls at hl ⊢
  have hl : lv_has ls 1 [(0, .ref aw)] := hl
  refine lv_aload_n hx hb dX6_bytesWritten_0 rfl (lv_at hl 0 rfl) ?_
  refine va_get (D := D) (ci := 5) (v := .int wr) (C := RX6) (T := TX6) (N := 5) hx hb hts iX6 hown hK hP 0 rfl rfl 3 (by decide) (hts (.fieldLink RX6 20 "SampleTracker$Power" "written" "I") (by decide +kernel)) (fun _ h9 => h9) rfl dX6_bytesWritten_1 ?_
  exact W.iret hx hb hr (fun t ht hW => ⟨⟨(), rfl, by rw [ht]; exact hP, hD⟩, hS.F ht⟩) hS.2.2 dX6_bytesWritten_4

set_option maxHeartbeats 4000000 in
set_option maxRecDepth 100000 in
theorem cX6_failures_ok (l : Launch) (D : va_G) (y : Nat → ClassId) (aw : Nat) (up : Bool) (cw : Bool) (bl : Int32) (wr : Int32) (fa : Int32) : CT l D y yX6_failures wsX6_failures ({ frames := 0, cells := 0, slots := 0, locals := 0 } : Room) [.ref aw] [(aw, .inr (5, [.int (zb up), .int (zb cw), .int bl, .int wr, .int fa]))] (some (.int fa)) [(aw, .inr (5, [.int (zb up), .int (zb cw), .int bl, .int wr, .int fa]))] := by
  intro sz
  refine Met.ofW (cc := cX6_failures) (maxL := 1) (ret := (some .int)) (by decide) rfl ?_
  intro p e s m args below meth c s₁ B hml hv
  obtain ⟨rfl, hsz, hP, hK, hD0, hst, hno⟩ := hv
  have hx := B.exec
  have hb := B.bytes
  have hr := B.returns
  have hts := atoms_spec (ws := wsX6_failures) B.pre
  have hown : s.vm.findClass RX6 = some m.cls := findClass_of_methodNamed B.named
  have hlocks := B.notSynchronized
  subst hsz
  have hD := hD0.self (sz := s.heap.size)
  generalize hAe : va_A [(aw, .inr (5, [.int (zb up), .int (zb cw), .int bl, .int wr, .int fa]))] s.heap.size = A at hD hst ⊢
  have hA : ∀ q : Nat, s.heap.size ≤ q → A q := fun q h => by rw [← hAe]; exact Or.inr h
  have hS : va_S A s.heap s.heap [] := va_S.rf
  have E : Ev D y A s := ⟨hK, hst, hno, hA⟩
  have hfix : CallFix p m c cX6_failures 1 s _ wsX6_failures RX6 := ⟨hx, hb, hml, hown, hts⟩
  have hP : va_P D vwCl [(aw, .inr (5, [.int (zb up), .int (zb cw), .int bl, .int wr, .int fa]))] s.heap := hP
  have iX6 : ∀ w ∈ wsX60, w ∈ wsX6_failures := by decide +kernel
  have hl := lv_entry ([.ref aw]) (n := 1) (Nat.le_of_ble_eq_true rfl)
  rw [lg_entry_eq]
  generalize (lg_sl ([.ref aw]) ++ List.replicate (1 - (lg_sl ([.ref aw])).length) Slot.unset).toArray = ls at hl ⊢
  have hl : lv_has ls 1 [(0, .ref aw)] := hl
  refine lv_aload_n hx hb dX6_failures_0 rfl (lv_at hl 0 rfl) ?_
  refine va_get (D := D) (ci := 5) (v := .int fa) (C := RX6) (T := TX6) (N := 5) hx hb hts iX6 hown hK hP 0 rfl rfl 4 (by decide) (hts (.fieldLink RX6 23 "SampleTracker$Power" "failed" "I") (by decide +kernel)) (fun _ h9 => h9) rfl dX6_failures_1 ?_
  exact W.iret hx hb hr (fun t ht hW => ⟨⟨(), rfl, by rw [ht]; exact hP, hD⟩, hS.F ht⟩) hS.2.2 dX6_failures_4

set_option maxHeartbeats 4000000 in
set_option maxRecDepth 100000 in
theorem cX6_failBehind_ok (l : Launch) (D : va_G) (y : Nat → ClassId) (aw : Nat) (up : Bool) (cw : Bool) (bl : Int32) (wr : Int32) (fa : Int32) (p1 : Int32) : CT l D y yX6_failBehind wsX6_failBehind ({ frames := 0, cells := 0, slots := 0, locals := 0 } : Room) [.ref aw, .int p1] [(aw, .inr (5, [.int (zb up), .int (zb cw), .int bl, .int wr, .int fa]))] (none) [(aw, .inr (5, [.int (zb up), .int (zb true), .int p1, .int wr, .int fa]))] := by
  intro sz
  refine Met.ofW (cc := cX6_failBehind) (maxL := 2) (ret := none) (by decide) rfl ?_
  intro p e s m args below meth c s₁ B hml hv
  obtain ⟨rfl, hsz, hP, hK, hD0, hst, hno⟩ := hv
  have hx := B.exec
  have hb := B.bytes
  have hr := B.returns
  have hts := atoms_spec (ws := wsX6_failBehind) B.pre
  have hown : s.vm.findClass RX6 = some m.cls := findClass_of_methodNamed B.named
  have hlocks := B.notSynchronized
  subst hsz
  have hD := hD0.self (sz := s.heap.size)
  generalize hAe : va_A [(aw, .inr (5, [.int (zb up), .int (zb cw), .int bl, .int wr, .int fa]))] s.heap.size = A at hD hst ⊢
  have hA : ∀ q : Nat, s.heap.size ≤ q → A q := fun q h => by rw [← hAe]; exact Or.inr h
  have hS : va_S A s.heap s.heap [] := va_S.rf
  have E : Ev D y A s := ⟨hK, hst, hno, hA⟩
  have hfix : CallFix p m c cX6_failBehind 2 s _ wsX6_failBehind RX6 := ⟨hx, hb, hml, hown, hts⟩
  have hP : va_P D vwCl [(aw, .inr (5, [.int (zb up), .int (zb cw), .int bl, .int wr, .int fa]))] s.heap := hP
  have iX6 : ∀ w ∈ wsX60, w ∈ wsX6_failBehind := by decide +kernel
  have hl := lv_entry ([.ref aw, .int p1]) (n := 2) (Nat.le_of_ble_eq_true rfl)
  rw [lg_entry_eq]
  generalize (lg_sl ([.ref aw, .int p1]) ++ List.replicate (2 - (lg_sl ([.ref aw, .int p1])).length) Slot.unset).toArray = ls at hl ⊢
  have hl : lv_has ls 2 [(0, .ref aw), (1, .int p1)] := hl
  refine lv_aload_n hx hb dX6_failBehind_0 rfl (lv_at hl 0 rfl) ?_
  refine lv_iconst (v := (1 : Int32)) hx hb dX6_failBehind_1 (by decide) ?_
  refine va_put (D := D) (ci := 5) (v := .int (1 : Int32)) (ty := .boolean) (C := RX6) (T := TX6) (N := 5) hx hb hts iX6 tyX6 tyX6_ok nmX6 hown hK hP hD hS 0 rfl rfl 1 (by decide) (hts (.fieldLink RX6 13 "SampleTracker$Power" "cutWaits" "Z") (by decide +kernel)) (fun _ h9 => h9) rfl (by decide +kernel) rfl rfl (Nat.le_of_ble_eq_true rfl) dX6_failBehind_2 (fun H locs hP hD hS => ?_)
  have hP : va_P D vwCl [(aw, .inr (5, [.int (zb up), .int (zb true), .int bl, .int wr, .int fa]))] H := hP
  have hD : va_D A [(aw, .inr (5, [.int (zb up), .int (zb true), .int bl, .int wr, .int fa]))] := hD
  refine lv_aload_n hx hb dX6_failBehind_5 rfl (lv_at hl 0 rfl) ?_
  refine lv_iload_n hx hb dX6_failBehind_6 rfl (lv_at hl 1 rfl) ?_
  refine va_put (D := D) (ci := 5) (v := .int p1) (ty := .int) (C := RX6) (T := TX6) (N := 5) hx hb hts iX6 tyX6 tyX6_ok nmX6 hown hK hP hD hS 0 rfl rfl 2 (by decide) (hts (.fieldLink RX6 16 "SampleTracker$Power" "bytesLeft" "I") (by decide +kernel)) (fun _ h9 => h9) rfl (by decide +kernel) rfl rfl (Nat.le_of_ble_eq_true rfl) dX6_failBehind_7 (fun H locs hP hD hS => ?_)
  have hP : va_P D vwCl [(aw, .inr (5, [.int (zb up), .int (zb true), .int p1, .int wr, .int fa]))] H := hP
  have hD : va_D A [(aw, .inr (5, [.int (zb up), .int (zb true), .int p1, .int wr, .int fa]))] := hD
  exact W.vret hx hb hr (fun t ht hW => ⟨⟨(), rfl, by rw [ht]; exact hP, hD⟩, hS.F ht⟩) hS.2.2 dX6_failBehind_10

set_option maxHeartbeats 4000000 in
set_option maxRecDepth 100000 in
theorem cX6_restore_ok (l : Launch) (D : va_G) (y : Nat → ClassId) (aw : Nat) (up : Bool) (cw : Bool) (bl : Int32) (wr : Int32) (fa : Int32) : CT l D y yX6_restore wsX6_restore ({ frames := 0, cells := 0, slots := 0, locals := 0 } : Room) [.ref aw] [(aw, .inr (5, [.int (zb up), .int (zb cw), .int bl, .int wr, .int fa]))] (none) [(aw, .inr (5, [.int (zb true), .int (zb false), .int bl, .int wr, .int fa]))] := by
  intro sz
  refine Met.ofW (cc := cX6_restore) (maxL := 1) (ret := none) (by decide) rfl ?_
  intro p e s m args below meth c s₁ B hml hv
  obtain ⟨rfl, hsz, hP, hK, hD0, hst, hno⟩ := hv
  have hx := B.exec
  have hb := B.bytes
  have hr := B.returns
  have hts := atoms_spec (ws := wsX6_restore) B.pre
  have hown : s.vm.findClass RX6 = some m.cls := findClass_of_methodNamed B.named
  have hlocks := B.notSynchronized
  subst hsz
  have hD := hD0.self (sz := s.heap.size)
  generalize hAe : va_A [(aw, .inr (5, [.int (zb up), .int (zb cw), .int bl, .int wr, .int fa]))] s.heap.size = A at hD hst ⊢
  have hA : ∀ q : Nat, s.heap.size ≤ q → A q := fun q h => by rw [← hAe]; exact Or.inr h
  have hS : va_S A s.heap s.heap [] := va_S.rf
  have E : Ev D y A s := ⟨hK, hst, hno, hA⟩
  have hfix : CallFix p m c cX6_restore 1 s _ wsX6_restore RX6 := ⟨hx, hb, hml, hown, hts⟩
  have hP : va_P D vwCl [(aw, .inr (5, [.int (zb up), .int (zb cw), .int bl, .int wr, .int fa]))] s.heap := hP
  have iX6 : ∀ w ∈ wsX60, w ∈ wsX6_restore := by decide +kernel
  have hl := lv_entry ([.ref aw]) (n := 1) (Nat.le_of_ble_eq_true rfl)
  rw [lg_entry_eq]
  generalize (lg_sl ([.ref aw]) ++ List.replicate (1 - (lg_sl ([.ref aw])).length) Slot.unset).toArray = ls at hl ⊢
  have hl : lv_has ls 1 [(0, .ref aw)] := hl
  refine lv_aload_n hx hb dX6_restore_0 rfl (lv_at hl 0 rfl) ?_
  refine lv_iconst (v := (1 : Int32)) hx hb dX6_restore_1 (by decide) ?_
  refine va_put (D := D) (ci := 5) (v := .int (1 : Int32)) (ty := .boolean) (C := RX6) (T := TX6) (N := 5) hx hb hts iX6 tyX6 tyX6_ok nmX6 hown hK hP hD hS 0 rfl rfl 0 (by decide) (hts (.fieldLink RX6 7 "SampleTracker$Power" "up" "Z") (by decide +kernel)) (fun _ h9 => h9) rfl (by decide +kernel) rfl rfl (Nat.le_of_ble_eq_true rfl) dX6_restore_2 (fun H locs hP hD hS => ?_)
  have hP : va_P D vwCl [(aw, .inr (5, [.int (zb true), .int (zb cw), .int bl, .int wr, .int fa]))] H := hP
  have hD : va_D A [(aw, .inr (5, [.int (zb true), .int (zb cw), .int bl, .int wr, .int fa]))] := hD
  refine lv_aload_n hx hb dX6_restore_5 rfl (lv_at hl 0 rfl) ?_
  refine lv_iconst (v := (0 : Int32)) hx hb dX6_restore_6 (by decide) ?_
  refine va_put (D := D) (ci := 5) (v := .int (0 : Int32)) (ty := .boolean) (C := RX6) (T := TX6) (N := 5) hx hb hts iX6 tyX6 tyX6_ok nmX6 hown hK hP hD hS 0 rfl rfl 1 (by decide) (hts (.fieldLink RX6 13 "SampleTracker$Power" "cutWaits" "Z") (by decide +kernel)) (fun _ h9 => h9) rfl (by decide +kernel) rfl rfl (Nat.le_of_ble_eq_true rfl) dX6_restore_7 (fun H locs hP hD hS => ?_)
  have hP : va_P D vwCl [(aw, .inr (5, [.int (zb true), .int (zb false), .int bl, .int wr, .int fa]))] H := hP
  have hD : va_D A [(aw, .inr (5, [.int (zb true), .int (zb false), .int bl, .int wr, .int fa]))] := hD
  exact W.vret hx hb hr (fun t ht hW => ⟨⟨(), rfl, by rw [ht]; exact hP, hD⟩, hS.F ht⟩) hS.2.2 dX6_restore_10

def fX6_letByteThrough (up : Bool) (cw : Bool) (bl : Int32) (wr : Int32) (fa : Int32) : Option (Bool × Bool × Bool × Int32 × Int32 × Int32) := (if (zb up) = 0 then (if (zb cw) = 0 then some (false, up, cw, bl, wr, fa) else (if bl = 0 then some (false, false, false, bl, wr, (fa + (1 : Int32))) else some (false, up, cw, bl, wr, fa))) else (if (zb cw) = 0 then some (true, up, cw, (bl - (0 : Int32)), (wr + (1 : Int32)), fa) else (if bl = 0 then some (false, false, false, bl, wr, (fa + (1 : Int32))) else (if (bl - (1 : Int32)) = 0 then some (true, false, false, (bl - (1 : Int32)), (wr + (1 : Int32)), (fa + (1 : Int32))) else some (true, up, cw, (bl - (1 : Int32)), (wr + (1 : Int32)), fa)))))

set_option maxHeartbeats 4000000 in
set_option maxRecDepth 100000 in
theorem cX6_letByteThrough_ok (l : Launch) (D : va_G) (y : Nat → ClassId) (aw : Nat) (up : Bool) (cw : Bool) (bl : Int32) (wr : Int32) (fa : Int32) (res : Bool × Bool × Bool × Int32 × Int32 × Int32) (hf : fX6_letByteThrough up cw bl wr fa = some res) : CT l D y yX6_letByteThrough wsX6_letByteThrough ({ frames := 0, cells := 0, slots := 0, locals := 0 } : Room) [.ref aw] [(aw, .inr (5, [.int (zb up), .int (zb cw), .int bl, .int wr, .int fa]))] (some (.int (zb res.1))) [(aw, .inr (5, [.int (zb res.2.1), .int (zb res.2.2.1), .int res.2.2.2.1, .int res.2.2.2.2.1, .int res.2.2.2.2.2]))] := by
  intro sz
  refine Met.ofW (cc := cX6_letByteThrough) (maxL := 2) (ret := (some .boolean)) (by decide) rfl ?_
  intro p e s m args below meth c s₁ B hml hv
  obtain ⟨rfl, hsz, hP, hK, hD0, hst, hno⟩ := hv
  have hx := B.exec
  have hb := B.bytes
  have hr := B.returns
  have hts := atoms_spec (ws := wsX6_letByteThrough) B.pre
  have hown : s.vm.findClass RX6 = some m.cls := findClass_of_methodNamed B.named
  have hlocks := B.notSynchronized
  subst hsz
  have hD := hD0.self (sz := s.heap.size)
  generalize hAe : va_A [(aw, .inr (5, [.int (zb up), .int (zb cw), .int bl, .int wr, .int fa]))] s.heap.size = A at hD hst ⊢
  have hA : ∀ q : Nat, s.heap.size ≤ q → A q := fun q h => by rw [← hAe]; exact Or.inr h
  have hS : va_S A s.heap s.heap [] := va_S.rf
  have E : Ev D y A s := ⟨hK, hst, hno, hA⟩
  have hfix : CallFix p m c cX6_letByteThrough 2 s _ wsX6_letByteThrough RX6 := ⟨hx, hb, hml, hown, hts⟩
  have hP : va_P D vwCl [(aw, .inr (5, [.int (zb up), .int (zb cw), .int bl, .int wr, .int fa]))] s.heap := hP
  have iX6 : ∀ w ∈ wsX60, w ∈ wsX6_letByteThrough := by decide +kernel
  have hl := lv_entry ([.ref aw]) (n := 2) (Nat.le_of_ble_eq_true rfl)
  rw [lg_entry_eq]
  generalize (lg_sl ([.ref aw]) ++ List.replicate (2 - (lg_sl ([.ref aw])).length) Slot.unset).toArray = ls at hl ⊢
  have hl : lv_has ls 2 [(0, .ref aw)] := hl
  unfold fX6_letByteThrough at hf
  refine lv_aload_n hx hb dX6_letByteThrough_0 rfl (lv_at hl 0 rfl) ?_
  refine va_get (D := D) (ci := 5) (v := .int (zb up)) (C := RX6) (T := TX6) (N := 5) hx hb hts iX6 hown hK hP 0 rfl rfl 0 (by decide) (hts (.fieldLink RX6 7 "SampleTracker$Power" "up" "Z") (by decide +kernel)) (fun _ h9 => h9) rfl dX6_letByteThrough_1 ?_
  refine lv_if_eq (tgt := 25) hx hb dX6_letByteThrough_4 (by decide) (fun c_1 => ?_) (fun c_1 => ?_)
  · have hf := ifp hf c_1
    refine lv_iconst (v := (0 : Int32)) hx hb dX6_letByteThrough_25 (by decide) ?_
    refine lv_istore_n (lv' := [(1, .int (0 : Int32)), (0, .ref aw)]) hx hb dX6_letByteThrough_26 rfl hl (by decide) rfl (fun ls hl => ?_)
    refine lv_iload_n hx hb dX6_letByteThrough_27 rfl (lv_at hl 0 rfl) ?_
    refine lv_if_eq (tgt := 62) hx hb dX6_letByteThrough_28 (by decide) (fun c_2 => ?_) (fun c_2 => absurd (by decide) c_2)
    refine lv_aload_n hx hb dX6_letByteThrough_62 rfl (lv_at hl 1 rfl) ?_
    refine va_get (D := D) (ci := 5) (v := .int (zb cw)) (C := RX6) (T := TX6) (N := 5) hx hb hts iX6 hown hK hP 0 rfl rfl 1 (by decide) (hts (.fieldLink RX6 13 "SampleTracker$Power" "cutWaits" "Z") (by decide +kernel)) (fun _ h9 => h9) rfl dX6_letByteThrough_63 ?_
    refine lv_if_eq (tgt := 96) hx hb dX6_letByteThrough_66 (by decide) (fun c_3 => ?_) (fun c_3 => ?_)
    · have hf := ifp hf c_3
      refine lv_iload_n hx hb dX6_letByteThrough_96 rfl (lv_at hl 0 rfl) ?_
      obtain rfl := Option.some.inj hf
      exact W.zret (ty := .boolean) hx hb hr rfl (fun t ht hW => ⟨⟨(), rfl, by rw [ht]; exact hP, hD⟩, hS.F ht⟩) hS.2.2 dX6_letByteThrough_97
    · have hf := ifn hf c_3
      refine lv_aload_n hx hb dX6_letByteThrough_69 rfl (lv_at hl 1 rfl) ?_
      refine va_get (D := D) (ci := 5) (v := .int bl) (C := RX6) (T := TX6) (N := 5) hx hb hts iX6 hown hK hP 0 rfl rfl 2 (by decide) (hts (.fieldLink RX6 16 "SampleTracker$Power" "bytesLeft" "I") (by decide +kernel)) (fun _ h9 => h9) rfl dX6_letByteThrough_70 ?_
      refine lv_if_ne (tgt := 96) hx hb dX6_letByteThrough_73 (by decide) (fun c_4 => ?_) (fun c_4 => ?_)
      · have hf := ifn hf c_4
        refine lv_iload_n hx hb dX6_letByteThrough_96 rfl (lv_at hl 0 rfl) ?_
        obtain rfl := Option.some.inj hf
        exact W.zret (ty := .boolean) hx hb hr rfl (fun t ht hW => ⟨⟨(), rfl, by rw [ht]; exact hP, hD⟩, hS.F ht⟩) hS.2.2 dX6_letByteThrough_97
      · have hf := ifp hf c_4
        refine lv_aload_n hx hb dX6_letByteThrough_76 rfl (lv_at hl 1 rfl) ?_
        refine lv_iconst (v := (0 : Int32)) hx hb dX6_letByteThrough_77 (by decide) ?_
        refine va_put (D := D) (ci := 5) (v := .int (0 : Int32)) (ty := .boolean) (C := RX6) (T := TX6) (N := 5) hx hb hts iX6 tyX6 tyX6_ok nmX6 hown hK hP hD hS 0 rfl rfl 0 (by decide) (hts (.fieldLink RX6 7 "SampleTracker$Power" "up" "Z") (by decide +kernel)) (fun _ h9 => h9) rfl (by decide +kernel) rfl rfl (Nat.le_of_ble_eq_true rfl) dX6_letByteThrough_78 (fun H locs hP hD hS => ?_)
        have hP : va_P D vwCl [(aw, .inr (5, [.int (zb false), .int (zb cw), .int bl, .int wr, .int fa]))] H := hP
        have hD : va_D A [(aw, .inr (5, [.int (zb false), .int (zb cw), .int bl, .int wr, .int fa]))] := hD
        refine lv_aload_n hx hb dX6_letByteThrough_81 rfl (lv_at hl 1 rfl) ?_
        refine lv_iconst (v := (0 : Int32)) hx hb dX6_letByteThrough_82 (by decide) ?_
        refine va_put (D := D) (ci := 5) (v := .int (0 : Int32)) (ty := .boolean) (C := RX6) (T := TX6) (N := 5) hx hb hts iX6 tyX6 tyX6_ok nmX6 hown hK hP hD hS 0 rfl rfl 1 (by decide) (hts (.fieldLink RX6 13 "SampleTracker$Power" "cutWaits" "Z") (by decide +kernel)) (fun _ h9 => h9) rfl (by decide +kernel) rfl rfl (Nat.le_of_ble_eq_true rfl) dX6_letByteThrough_83 (fun H locs hP hD hS => ?_)
        have hP : va_P D vwCl [(aw, .inr (5, [.int (zb false), .int (zb false), .int bl, .int wr, .int fa]))] H := hP
        have hD : va_D A [(aw, .inr (5, [.int (zb false), .int (zb false), .int bl, .int wr, .int fa]))] := hD
        refine lv_aload_n hx hb dX6_letByteThrough_86 rfl (lv_at hl 1 rfl) ?_
        refine lv_dup hx hb dX6_letByteThrough_87 rfl ?_
        refine va_get (D := D) (ci := 5) (v := .int fa) (C := RX6) (T := TX6) (N := 5) hx hb hts iX6 hown hK hP 0 rfl rfl 4 (by decide) (hts (.fieldLink RX6 23 "SampleTracker$Power" "failed" "I") (by decide +kernel)) (fun _ h9 => h9) rfl dX6_letByteThrough_88 ?_
        refine lv_iconst (v := (1 : Int32)) hx hb dX6_letByteThrough_91 (by decide) ?_
        refine lv_iadd hx hb dX6_letByteThrough_92 ?_
        refine va_put (D := D) (ci := 5) (v := .int (fa + (1 : Int32))) (ty := .int) (C := RX6) (T := TX6) (N := 5) hx hb hts iX6 tyX6 tyX6_ok nmX6 hown hK hP hD hS 0 rfl rfl 4 (by decide) (hts (.fieldLink RX6 23 "SampleTracker$Power" "failed" "I") (by decide +kernel)) (fun _ h9 => h9) rfl (by decide +kernel) rfl rfl (Nat.le_of_ble_eq_true rfl) dX6_letByteThrough_93 (fun H locs hP hD hS => ?_)
        have hP : va_P D vwCl [(aw, .inr (5, [.int (zb false), .int (zb false), .int bl, .int wr, .int (fa + (1 : Int32))]))] H := hP
        have hD : va_D A [(aw, .inr (5, [.int (zb false), .int (zb false), .int bl, .int wr, .int (fa + (1 : Int32))]))] := hD
        refine lv_iload_n hx hb dX6_letByteThrough_96 rfl (lv_at hl 0 rfl) ?_
        obtain rfl := Option.some.inj hf
        exact W.zret (ty := .boolean) hx hb hr rfl (fun t ht hW => ⟨⟨(), rfl, by rw [ht]; exact hP, hD⟩, hS.F ht⟩) hS.2.2 dX6_letByteThrough_97
  · have hf := ifn hf c_1
    refine lv_aload_n hx hb dX6_letByteThrough_7 rfl (lv_at hl 0 rfl) ?_
    refine va_get (D := D) (ci := 5) (v := .int (zb cw)) (C := RX6) (T := TX6) (N := 5) hx hb hts iX6 hown hK hP 0 rfl rfl 1 (by decide) (hts (.fieldLink RX6 13 "SampleTracker$Power" "cutWaits" "Z") (by decide +kernel)) (fun _ h9 => h9) rfl dX6_letByteThrough_8 ?_
    refine lv_if_eq (tgt := 21) hx hb dX6_letByteThrough_11 (by decide) (fun c_5 => ?_) (fun c_5 => ?_)
    · have hf := ifp hf c_5
      refine lv_iconst (v := (1 : Int32)) hx hb dX6_letByteThrough_21 (by decide) ?_
      refine lv_goto (tgt := 26) hx hb dX6_letByteThrough_22 (by decide) ?_
      refine lv_istore_n (lv' := [(1, .int (1 : Int32)), (0, .ref aw)]) hx hb dX6_letByteThrough_26 rfl hl (by decide) rfl (fun ls hl => ?_)
      refine lv_iload_n hx hb dX6_letByteThrough_27 rfl (lv_at hl 0 rfl) ?_
      refine lv_if_eq (tgt := 62) hx hb dX6_letByteThrough_28 (by decide) (fun c_6 => absurd c_6 (by decide)) (fun c_6 => ?_)
      refine lv_aload_n hx hb dX6_letByteThrough_31 rfl (lv_at hl 1 rfl) ?_
      refine lv_dup hx hb dX6_letByteThrough_32 rfl ?_
      refine va_get (D := D) (ci := 5) (v := .int wr) (C := RX6) (T := TX6) (N := 5) hx hb hts iX6 hown hK hP 0 rfl rfl 3 (by decide) (hts (.fieldLink RX6 20 "SampleTracker$Power" "written" "I") (by decide +kernel)) (fun _ h9 => h9) rfl dX6_letByteThrough_33 ?_
      refine lv_iconst (v := (1 : Int32)) hx hb dX6_letByteThrough_36 (by decide) ?_
      refine lv_iadd hx hb dX6_letByteThrough_37 ?_
      refine va_put (D := D) (ci := 5) (v := .int (wr + (1 : Int32))) (ty := .int) (C := RX6) (T := TX6) (N := 5) hx hb hts iX6 tyX6 tyX6_ok nmX6 hown hK hP hD hS 0 rfl rfl 3 (by decide) (hts (.fieldLink RX6 20 "SampleTracker$Power" "written" "I") (by decide +kernel)) (fun _ h9 => h9) rfl (by decide +kernel) rfl rfl (Nat.le_of_ble_eq_true rfl) dX6_letByteThrough_38 (fun H locs hP hD hS => ?_)
      have hP : va_P D vwCl [(aw, .inr (5, [.int (zb up), .int (zb cw), .int bl, .int (wr + (1 : Int32)), .int fa]))] H := hP
      have hD : va_D A [(aw, .inr (5, [.int (zb up), .int (zb cw), .int bl, .int (wr + (1 : Int32)), .int fa]))] := hD
      refine lv_aload_n hx hb dX6_letByteThrough_41 rfl (lv_at hl 1 rfl) ?_
      refine lv_dup hx hb dX6_letByteThrough_42 rfl ?_
      refine va_get (D := D) (ci := 5) (v := .int bl) (C := RX6) (T := TX6) (N := 5) hx hb hts iX6 hown hK hP 0 rfl rfl 2 (by decide) (hts (.fieldLink RX6 16 "SampleTracker$Power" "bytesLeft" "I") (by decide +kernel)) (fun _ h9 => h9) rfl dX6_letByteThrough_43 ?_
      refine lv_aload_n hx hb dX6_letByteThrough_46 rfl (lv_at hl 1 rfl) ?_
      refine va_get (D := D) (ci := 5) (v := .int (zb cw)) (C := RX6) (T := TX6) (N := 5) hx hb hts iX6 hown hK hP 0 rfl rfl 1 (by decide) (hts (.fieldLink RX6 13 "SampleTracker$Power" "cutWaits" "Z") (by decide +kernel)) (fun _ h9 => h9) rfl dX6_letByteThrough_47 ?_
      refine lv_if_eq (tgt := 57) hx hb dX6_letByteThrough_50 (by decide) (fun c_7 => ?_) (fun c_7 => absurd c_5 c_7)
      refine lv_iconst (v := (0 : Int32)) hx hb dX6_letByteThrough_57 (by decide) ?_
      refine lv_isub hx hb dX6_letByteThrough_58 ?_
      refine va_put (D := D) (ci := 5) (v := .int (bl - (0 : Int32))) (ty := .int) (C := RX6) (T := TX6) (N := 5) hx hb hts iX6 tyX6 tyX6_ok nmX6 hown hK hP hD hS 0 rfl rfl 2 (by decide) (hts (.fieldLink RX6 16 "SampleTracker$Power" "bytesLeft" "I") (by decide +kernel)) (fun _ h9 => h9) rfl (by decide +kernel) rfl rfl (Nat.le_of_ble_eq_true rfl) dX6_letByteThrough_59 (fun H locs hP hD hS => ?_)
      have hP : va_P D vwCl [(aw, .inr (5, [.int (zb up), .int (zb cw), .int (bl - (0 : Int32)), .int (wr + (1 : Int32)), .int fa]))] H := hP
      have hD : va_D A [(aw, .inr (5, [.int (zb up), .int (zb cw), .int (bl - (0 : Int32)), .int (wr + (1 : Int32)), .int fa]))] := hD
      refine lv_aload_n hx hb dX6_letByteThrough_62 rfl (lv_at hl 1 rfl) ?_
      refine va_get (D := D) (ci := 5) (v := .int (zb cw)) (C := RX6) (T := TX6) (N := 5) hx hb hts iX6 hown hK hP 0 rfl rfl 1 (by decide) (hts (.fieldLink RX6 13 "SampleTracker$Power" "cutWaits" "Z") (by decide +kernel)) (fun _ h9 => h9) rfl dX6_letByteThrough_63 ?_
      refine lv_if_eq (tgt := 96) hx hb dX6_letByteThrough_66 (by decide) (fun c_8 => ?_) (fun c_8 => absurd c_5 c_8)
      refine lv_iload_n hx hb dX6_letByteThrough_96 rfl (lv_at hl 0 rfl) ?_
      obtain rfl := Option.some.inj hf
      exact W.zret (ty := .boolean) hx hb hr rfl (fun t ht hW => ⟨⟨(), rfl, by rw [ht]; exact hP, hD⟩, hS.F ht⟩) hS.2.2 dX6_letByteThrough_97
    · have hf := ifn hf c_5
      refine lv_aload_n hx hb dX6_letByteThrough_14 rfl (lv_at hl 0 rfl) ?_
      refine va_get (D := D) (ci := 5) (v := .int bl) (C := RX6) (T := TX6) (N := 5) hx hb hts iX6 hown hK hP 0 rfl rfl 2 (by decide) (hts (.fieldLink RX6 16 "SampleTracker$Power" "bytesLeft" "I") (by decide +kernel)) (fun _ h9 => h9) rfl dX6_letByteThrough_15 ?_
      refine lv_if_eq (tgt := 25) hx hb dX6_letByteThrough_18 (by decide) (fun c_9 => ?_) (fun c_9 => ?_)
      · have hf := ifp hf c_9
        refine lv_iconst (v := (0 : Int32)) hx hb dX6_letByteThrough_25 (by decide) ?_
        refine lv_istore_n (lv' := [(1, .int (0 : Int32)), (0, .ref aw)]) hx hb dX6_letByteThrough_26 rfl hl (by decide) rfl (fun ls hl => ?_)
        refine lv_iload_n hx hb dX6_letByteThrough_27 rfl (lv_at hl 0 rfl) ?_
        refine lv_if_eq (tgt := 62) hx hb dX6_letByteThrough_28 (by decide) (fun c_10 => ?_) (fun c_10 => absurd (by decide) c_10)
        refine lv_aload_n hx hb dX6_letByteThrough_62 rfl (lv_at hl 1 rfl) ?_
        refine va_get (D := D) (ci := 5) (v := .int (zb cw)) (C := RX6) (T := TX6) (N := 5) hx hb hts iX6 hown hK hP 0 rfl rfl 1 (by decide) (hts (.fieldLink RX6 13 "SampleTracker$Power" "cutWaits" "Z") (by decide +kernel)) (fun _ h9 => h9) rfl dX6_letByteThrough_63 ?_
        refine lv_if_eq (tgt := 96) hx hb dX6_letByteThrough_66 (by decide) (fun c_11 => absurd c_11 c_5) (fun c_11 => ?_)
        refine lv_aload_n hx hb dX6_letByteThrough_69 rfl (lv_at hl 1 rfl) ?_
        refine va_get (D := D) (ci := 5) (v := .int bl) (C := RX6) (T := TX6) (N := 5) hx hb hts iX6 hown hK hP 0 rfl rfl 2 (by decide) (hts (.fieldLink RX6 16 "SampleTracker$Power" "bytesLeft" "I") (by decide +kernel)) (fun _ h9 => h9) rfl dX6_letByteThrough_70 ?_
        refine lv_if_ne (tgt := 96) hx hb dX6_letByteThrough_73 (by decide) (fun c_12 => absurd c_9 c_12) (fun c_12 => ?_)
        refine lv_aload_n hx hb dX6_letByteThrough_76 rfl (lv_at hl 1 rfl) ?_
        refine lv_iconst (v := (0 : Int32)) hx hb dX6_letByteThrough_77 (by decide) ?_
        refine va_put (D := D) (ci := 5) (v := .int (0 : Int32)) (ty := .boolean) (C := RX6) (T := TX6) (N := 5) hx hb hts iX6 tyX6 tyX6_ok nmX6 hown hK hP hD hS 0 rfl rfl 0 (by decide) (hts (.fieldLink RX6 7 "SampleTracker$Power" "up" "Z") (by decide +kernel)) (fun _ h9 => h9) rfl (by decide +kernel) rfl rfl (Nat.le_of_ble_eq_true rfl) dX6_letByteThrough_78 (fun H locs hP hD hS => ?_)
        have hP : va_P D vwCl [(aw, .inr (5, [.int (zb false), .int (zb cw), .int bl, .int wr, .int fa]))] H := hP
        have hD : va_D A [(aw, .inr (5, [.int (zb false), .int (zb cw), .int bl, .int wr, .int fa]))] := hD
        refine lv_aload_n hx hb dX6_letByteThrough_81 rfl (lv_at hl 1 rfl) ?_
        refine lv_iconst (v := (0 : Int32)) hx hb dX6_letByteThrough_82 (by decide) ?_
        refine va_put (D := D) (ci := 5) (v := .int (0 : Int32)) (ty := .boolean) (C := RX6) (T := TX6) (N := 5) hx hb hts iX6 tyX6 tyX6_ok nmX6 hown hK hP hD hS 0 rfl rfl 1 (by decide) (hts (.fieldLink RX6 13 "SampleTracker$Power" "cutWaits" "Z") (by decide +kernel)) (fun _ h9 => h9) rfl (by decide +kernel) rfl rfl (Nat.le_of_ble_eq_true rfl) dX6_letByteThrough_83 (fun H locs hP hD hS => ?_)
        have hP : va_P D vwCl [(aw, .inr (5, [.int (zb false), .int (zb false), .int bl, .int wr, .int fa]))] H := hP
        have hD : va_D A [(aw, .inr (5, [.int (zb false), .int (zb false), .int bl, .int wr, .int fa]))] := hD
        refine lv_aload_n hx hb dX6_letByteThrough_86 rfl (lv_at hl 1 rfl) ?_
        refine lv_dup hx hb dX6_letByteThrough_87 rfl ?_
        refine va_get (D := D) (ci := 5) (v := .int fa) (C := RX6) (T := TX6) (N := 5) hx hb hts iX6 hown hK hP 0 rfl rfl 4 (by decide) (hts (.fieldLink RX6 23 "SampleTracker$Power" "failed" "I") (by decide +kernel)) (fun _ h9 => h9) rfl dX6_letByteThrough_88 ?_
        refine lv_iconst (v := (1 : Int32)) hx hb dX6_letByteThrough_91 (by decide) ?_
        refine lv_iadd hx hb dX6_letByteThrough_92 ?_
        refine va_put (D := D) (ci := 5) (v := .int (fa + (1 : Int32))) (ty := .int) (C := RX6) (T := TX6) (N := 5) hx hb hts iX6 tyX6 tyX6_ok nmX6 hown hK hP hD hS 0 rfl rfl 4 (by decide) (hts (.fieldLink RX6 23 "SampleTracker$Power" "failed" "I") (by decide +kernel)) (fun _ h9 => h9) rfl (by decide +kernel) rfl rfl (Nat.le_of_ble_eq_true rfl) dX6_letByteThrough_93 (fun H locs hP hD hS => ?_)
        have hP : va_P D vwCl [(aw, .inr (5, [.int (zb false), .int (zb false), .int bl, .int wr, .int (fa + (1 : Int32))]))] H := hP
        have hD : va_D A [(aw, .inr (5, [.int (zb false), .int (zb false), .int bl, .int wr, .int (fa + (1 : Int32))]))] := hD
        refine lv_iload_n hx hb dX6_letByteThrough_96 rfl (lv_at hl 0 rfl) ?_
        obtain rfl := Option.some.inj hf
        exact W.zret (ty := .boolean) hx hb hr rfl (fun t ht hW => ⟨⟨(), rfl, by rw [ht]; exact hP, hD⟩, hS.F ht⟩) hS.2.2 dX6_letByteThrough_97
      · have hf := ifn hf c_9
        refine lv_iconst (v := (1 : Int32)) hx hb dX6_letByteThrough_21 (by decide) ?_
        refine lv_goto (tgt := 26) hx hb dX6_letByteThrough_22 (by decide) ?_
        refine lv_istore_n (lv' := [(1, .int (1 : Int32)), (0, .ref aw)]) hx hb dX6_letByteThrough_26 rfl hl (by decide) rfl (fun ls hl => ?_)
        refine lv_iload_n hx hb dX6_letByteThrough_27 rfl (lv_at hl 0 rfl) ?_
        refine lv_if_eq (tgt := 62) hx hb dX6_letByteThrough_28 (by decide) (fun c_13 => absurd c_13 (by decide)) (fun c_13 => ?_)
        refine lv_aload_n hx hb dX6_letByteThrough_31 rfl (lv_at hl 1 rfl) ?_
        refine lv_dup hx hb dX6_letByteThrough_32 rfl ?_
        refine va_get (D := D) (ci := 5) (v := .int wr) (C := RX6) (T := TX6) (N := 5) hx hb hts iX6 hown hK hP 0 rfl rfl 3 (by decide) (hts (.fieldLink RX6 20 "SampleTracker$Power" "written" "I") (by decide +kernel)) (fun _ h9 => h9) rfl dX6_letByteThrough_33 ?_
        refine lv_iconst (v := (1 : Int32)) hx hb dX6_letByteThrough_36 (by decide) ?_
        refine lv_iadd hx hb dX6_letByteThrough_37 ?_
        refine va_put (D := D) (ci := 5) (v := .int (wr + (1 : Int32))) (ty := .int) (C := RX6) (T := TX6) (N := 5) hx hb hts iX6 tyX6 tyX6_ok nmX6 hown hK hP hD hS 0 rfl rfl 3 (by decide) (hts (.fieldLink RX6 20 "SampleTracker$Power" "written" "I") (by decide +kernel)) (fun _ h9 => h9) rfl (by decide +kernel) rfl rfl (Nat.le_of_ble_eq_true rfl) dX6_letByteThrough_38 (fun H locs hP hD hS => ?_)
        have hP : va_P D vwCl [(aw, .inr (5, [.int (zb up), .int (zb cw), .int bl, .int (wr + (1 : Int32)), .int fa]))] H := hP
        have hD : va_D A [(aw, .inr (5, [.int (zb up), .int (zb cw), .int bl, .int (wr + (1 : Int32)), .int fa]))] := hD
        refine lv_aload_n hx hb dX6_letByteThrough_41 rfl (lv_at hl 1 rfl) ?_
        refine lv_dup hx hb dX6_letByteThrough_42 rfl ?_
        refine va_get (D := D) (ci := 5) (v := .int bl) (C := RX6) (T := TX6) (N := 5) hx hb hts iX6 hown hK hP 0 rfl rfl 2 (by decide) (hts (.fieldLink RX6 16 "SampleTracker$Power" "bytesLeft" "I") (by decide +kernel)) (fun _ h9 => h9) rfl dX6_letByteThrough_43 ?_
        refine lv_aload_n hx hb dX6_letByteThrough_46 rfl (lv_at hl 1 rfl) ?_
        refine va_get (D := D) (ci := 5) (v := .int (zb cw)) (C := RX6) (T := TX6) (N := 5) hx hb hts iX6 hown hK hP 0 rfl rfl 1 (by decide) (hts (.fieldLink RX6 13 "SampleTracker$Power" "cutWaits" "Z") (by decide +kernel)) (fun _ h9 => h9) rfl dX6_letByteThrough_47 ?_
        refine lv_if_eq (tgt := 57) hx hb dX6_letByteThrough_50 (by decide) (fun c_14 => absurd c_14 c_5) (fun c_14 => ?_)
        refine lv_iconst (v := (1 : Int32)) hx hb dX6_letByteThrough_53 (by decide) ?_
        refine lv_goto (tgt := 58) hx hb dX6_letByteThrough_54 (by decide) ?_
        refine lv_isub hx hb dX6_letByteThrough_58 ?_
        refine va_put (D := D) (ci := 5) (v := .int (bl - (1 : Int32))) (ty := .int) (C := RX6) (T := TX6) (N := 5) hx hb hts iX6 tyX6 tyX6_ok nmX6 hown hK hP hD hS 0 rfl rfl 2 (by decide) (hts (.fieldLink RX6 16 "SampleTracker$Power" "bytesLeft" "I") (by decide +kernel)) (fun _ h9 => h9) rfl (by decide +kernel) rfl rfl (Nat.le_of_ble_eq_true rfl) dX6_letByteThrough_59 (fun H locs hP hD hS => ?_)
        have hP : va_P D vwCl [(aw, .inr (5, [.int (zb up), .int (zb cw), .int (bl - (1 : Int32)), .int (wr + (1 : Int32)), .int fa]))] H := hP
        have hD : va_D A [(aw, .inr (5, [.int (zb up), .int (zb cw), .int (bl - (1 : Int32)), .int (wr + (1 : Int32)), .int fa]))] := hD
        refine lv_aload_n hx hb dX6_letByteThrough_62 rfl (lv_at hl 1 rfl) ?_
        refine va_get (D := D) (ci := 5) (v := .int (zb cw)) (C := RX6) (T := TX6) (N := 5) hx hb hts iX6 hown hK hP 0 rfl rfl 1 (by decide) (hts (.fieldLink RX6 13 "SampleTracker$Power" "cutWaits" "Z") (by decide +kernel)) (fun _ h9 => h9) rfl dX6_letByteThrough_63 ?_
        refine lv_if_eq (tgt := 96) hx hb dX6_letByteThrough_66 (by decide) (fun c_15 => absurd c_15 c_5) (fun c_15 => ?_)
        refine lv_aload_n hx hb dX6_letByteThrough_69 rfl (lv_at hl 1 rfl) ?_
        refine va_get (D := D) (ci := 5) (v := .int (bl - (1 : Int32))) (C := RX6) (T := TX6) (N := 5) hx hb hts iX6 hown hK hP 0 rfl rfl 2 (by decide) (hts (.fieldLink RX6 16 "SampleTracker$Power" "bytesLeft" "I") (by decide +kernel)) (fun _ h9 => h9) rfl dX6_letByteThrough_70 ?_
        refine lv_if_ne (tgt := 96) hx hb dX6_letByteThrough_73 (by decide) (fun c_16 => ?_) (fun c_16 => ?_)
        · have hf := ifn hf c_16
          refine lv_iload_n hx hb dX6_letByteThrough_96 rfl (lv_at hl 0 rfl) ?_
          obtain rfl := Option.some.inj hf
          exact W.zret (ty := .boolean) hx hb hr rfl (fun t ht hW => ⟨⟨(), rfl, by rw [ht]; exact hP, hD⟩, hS.F ht⟩) hS.2.2 dX6_letByteThrough_97
        · have hf := ifp hf c_16
          refine lv_aload_n hx hb dX6_letByteThrough_76 rfl (lv_at hl 1 rfl) ?_
          refine lv_iconst (v := (0 : Int32)) hx hb dX6_letByteThrough_77 (by decide) ?_
          refine va_put (D := D) (ci := 5) (v := .int (0 : Int32)) (ty := .boolean) (C := RX6) (T := TX6) (N := 5) hx hb hts iX6 tyX6 tyX6_ok nmX6 hown hK hP hD hS 0 rfl rfl 0 (by decide) (hts (.fieldLink RX6 7 "SampleTracker$Power" "up" "Z") (by decide +kernel)) (fun _ h9 => h9) rfl (by decide +kernel) rfl rfl (Nat.le_of_ble_eq_true rfl) dX6_letByteThrough_78 (fun H locs hP hD hS => ?_)
          have hP : va_P D vwCl [(aw, .inr (5, [.int (zb false), .int (zb cw), .int (bl - (1 : Int32)), .int (wr + (1 : Int32)), .int fa]))] H := hP
          have hD : va_D A [(aw, .inr (5, [.int (zb false), .int (zb cw), .int (bl - (1 : Int32)), .int (wr + (1 : Int32)), .int fa]))] := hD
          refine lv_aload_n hx hb dX6_letByteThrough_81 rfl (lv_at hl 1 rfl) ?_
          refine lv_iconst (v := (0 : Int32)) hx hb dX6_letByteThrough_82 (by decide) ?_
          refine va_put (D := D) (ci := 5) (v := .int (0 : Int32)) (ty := .boolean) (C := RX6) (T := TX6) (N := 5) hx hb hts iX6 tyX6 tyX6_ok nmX6 hown hK hP hD hS 0 rfl rfl 1 (by decide) (hts (.fieldLink RX6 13 "SampleTracker$Power" "cutWaits" "Z") (by decide +kernel)) (fun _ h9 => h9) rfl (by decide +kernel) rfl rfl (Nat.le_of_ble_eq_true rfl) dX6_letByteThrough_83 (fun H locs hP hD hS => ?_)
          have hP : va_P D vwCl [(aw, .inr (5, [.int (zb false), .int (zb false), .int (bl - (1 : Int32)), .int (wr + (1 : Int32)), .int fa]))] H := hP
          have hD : va_D A [(aw, .inr (5, [.int (zb false), .int (zb false), .int (bl - (1 : Int32)), .int (wr + (1 : Int32)), .int fa]))] := hD
          refine lv_aload_n hx hb dX6_letByteThrough_86 rfl (lv_at hl 1 rfl) ?_
          refine lv_dup hx hb dX6_letByteThrough_87 rfl ?_
          refine va_get (D := D) (ci := 5) (v := .int fa) (C := RX6) (T := TX6) (N := 5) hx hb hts iX6 hown hK hP 0 rfl rfl 4 (by decide) (hts (.fieldLink RX6 23 "SampleTracker$Power" "failed" "I") (by decide +kernel)) (fun _ h9 => h9) rfl dX6_letByteThrough_88 ?_
          refine lv_iconst (v := (1 : Int32)) hx hb dX6_letByteThrough_91 (by decide) ?_
          refine lv_iadd hx hb dX6_letByteThrough_92 ?_
          refine va_put (D := D) (ci := 5) (v := .int (fa + (1 : Int32))) (ty := .int) (C := RX6) (T := TX6) (N := 5) hx hb hts iX6 tyX6 tyX6_ok nmX6 hown hK hP hD hS 0 rfl rfl 4 (by decide) (hts (.fieldLink RX6 23 "SampleTracker$Power" "failed" "I") (by decide +kernel)) (fun _ h9 => h9) rfl (by decide +kernel) rfl rfl (Nat.le_of_ble_eq_true rfl) dX6_letByteThrough_93 (fun H locs hP hD hS => ?_)
          have hP : va_P D vwCl [(aw, .inr (5, [.int (zb false), .int (zb false), .int (bl - (1 : Int32)), .int (wr + (1 : Int32)), .int (fa + (1 : Int32))]))] H := hP
          have hD : va_D A [(aw, .inr (5, [.int (zb false), .int (zb false), .int (bl - (1 : Int32)), .int (wr + (1 : Int32)), .int (fa + (1 : Int32))]))] := hD
          refine lv_iload_n hx hb dX6_letByteThrough_96 rfl (lv_at hl 0 rfl) ?_
          obtain rfl := Option.some.inj hf
          exact W.zret (ty := .boolean) hx hb hr rfl (fun t ht hW => ⟨⟨(), rfl, by rw [ht]; exact hP, hD⟩, hS.F ht⟩) hS.2.2 dX6_letByteThrough_97

def fX1_step (p1 : Int32) (p2 : Int32) : Option (Int32) := (if (ib ((p1 ^^^ p2) &&& (15 : Int32)) 16) = true then (if (ib ((((jiushr p1 (4 : Int32)) ^^^ (crcT ((p1 ^^^ p2) &&& (15 : Int32)).toNatClampNeg)) ^^^ (jiushr p2 (4 : Int32))) &&& (15 : Int32)) 16) = true then some ((jiushr ((jiushr p1 (4 : Int32)) ^^^ (crcT ((p1 ^^^ p2) &&& (15 : Int32)).toNatClampNeg)) (4 : Int32)) ^^^ (crcT ((((jiushr p1 (4 : Int32)) ^^^ (crcT ((p1 ^^^ p2) &&& (15 : Int32)).toNatClampNeg)) ^^^ (jiushr p2 (4 : Int32))) &&& (15 : Int32)).toNatClampNeg)) else none) else none)

set_option maxHeartbeats 4000000 in
set_option maxRecDepth 100000 in
theorem cX1_step_ok (l : Launch) (D : va_G) (y : Nat → ClassId) (p1 : Int32) (p2 : Int32) (res : Int32) (hf : fX1_step p1 p2 = some res) : CT l D y yX1_step wsX1_step ({ frames := 0, cells := 0, slots := 0, locals := 0 } : Room) [.int p1, .int p2] [] (some (.int res)) [] := by
  intro sz
  refine Met.ofW (cc := cX1_step) (maxL := 3) (ret := (some .int)) (by decide) rfl ?_
  intro p e s m args below meth c s₁ B hml hv
  obtain ⟨rfl, hsz, hP, hK, hD0, hst, hno⟩ := hv
  have hx := B.exec
  have hb := B.bytes
  have hr := B.returns
  have hts := atoms_spec (ws := wsX1_step) B.pre
  have hown : s.vm.findClass RX1 = some m.cls := findClass_of_methodNamed B.named
  have hlocks := B.notSynchronized
  subst hsz
  have hD := hD0.self (sz := s.heap.size)
  generalize hAe : va_A [] s.heap.size = A at hD hst ⊢
  have hA : ∀ q : Nat, s.heap.size ≤ q → A q := fun q h => by rw [← hAe]; exact Or.inr h
  have hS : va_S A s.heap s.heap [] := va_S.rf
  have E : Ev D y A s := ⟨hK, hst, hno, hA⟩
  have hfix : CallFix p m c cX1_step 3 s _ wsX1_step RX1 := ⟨hx, hb, hml, hown, hts⟩
  have hP : va_P D vwCl [] s.heap := hP
  obtain ⟨tS, hZ, hT⟩ := E.2.1
  have hl := lv_entry ([.int p1, .int p2]) (n := 3) (Nat.le_of_ble_eq_true rfl)
  rw [lg_entry_eq]
  generalize (lg_sl ([.int p1, .int p2]) ++ List.replicate (3 - (lg_sl ([.int p1, .int p2])).length) Slot.unset).toArray = ls at hl ⊢
  have hl : lv_has ls 3 [(0, .int p1), (1, .int p2)] := hl
  unfold fX1_step at hf
  refine lv_iload_n hx hb dX1_step_0 rfl (lv_at hl 0 rfl) ?_
  refine lv_iconst (v := (4 : Int32)) hx hb dX1_step_1 (by decide) ?_
  refine lv_iushr (v := (jiushr p1 (4 : Int32))) hx hb dX1_step_2 rfl ?_
  refine va_gets (v := .ref tS) hx hb hZ hS hown (hts (.fieldLink RX1 7 "SampleTracker$Crc" "OF_HALF_BYTE" "[I") (by decide +kernel)) (fun _ h9 => h9) dX1_step_3 ?_
  refine lv_iload_n hx hb dX1_step_6 rfl (lv_at hl 0 rfl) ?_
  refine lv_iload_n hx hb dX1_step_7 rfl (lv_at hl 1 rfl) ?_
  refine lv_ixor hx hb dX1_step_8 ?_
  refine lv_bipush (v := (15 : Int32)) hx hb dX1_step_9 (by decide) ?_
  refine lv_iand hx hb dX1_step_11 ?_
  obtain ⟨h_1, hf⟩ := ibk hf
  refine va_ti (v := .int (crcT ((p1 ^^^ p2) &&& (15 : Int32)).toNatClampNeg)) hx hb hT hS (ib_in h_1) rfl dX1_step_12 ?_
  refine lv_ixor hx hb dX1_step_13 ?_
  refine lv_istore_n (lv' := [(2, .int ((jiushr p1 (4 : Int32)) ^^^ (crcT ((p1 ^^^ p2) &&& (15 : Int32)).toNatClampNeg))), (0, .int p1), (1, .int p2)]) hx hb dX1_step_14 rfl hl (by decide) rfl (fun ls hl => ?_)
  refine lv_iload_n hx hb dX1_step_15 rfl (lv_at hl 0 rfl) ?_
  refine lv_iconst (v := (4 : Int32)) hx hb dX1_step_16 (by decide) ?_
  refine lv_iushr (v := (jiushr ((jiushr p1 (4 : Int32)) ^^^ (crcT ((p1 ^^^ p2) &&& (15 : Int32)).toNatClampNeg)) (4 : Int32))) hx hb dX1_step_17 rfl ?_
  refine va_gets (v := .ref tS) hx hb hZ hS hown (hts (.fieldLink RX1 7 "SampleTracker$Crc" "OF_HALF_BYTE" "[I") (by decide +kernel)) (fun _ h9 => h9) dX1_step_18 ?_
  refine lv_iload_n hx hb dX1_step_21 rfl (lv_at hl 0 rfl) ?_
  refine lv_iload_n hx hb dX1_step_22 rfl (lv_at hl 2 rfl) ?_
  refine lv_iconst (v := (4 : Int32)) hx hb dX1_step_23 (by decide) ?_
  refine lv_iushr (v := (jiushr p2 (4 : Int32))) hx hb dX1_step_24 rfl ?_
  refine lv_ixor hx hb dX1_step_25 ?_
  refine lv_bipush (v := (15 : Int32)) hx hb dX1_step_26 (by decide) ?_
  refine lv_iand hx hb dX1_step_28 ?_
  obtain ⟨h_2, hf⟩ := ibk hf
  refine va_ti (v := .int (crcT ((((jiushr p1 (4 : Int32)) ^^^ (crcT ((p1 ^^^ p2) &&& (15 : Int32)).toNatClampNeg)) ^^^ (jiushr p2 (4 : Int32))) &&& (15 : Int32)).toNatClampNeg)) hx hb hT hS (ib_in h_2) rfl dX1_step_29 ?_
  refine lv_ixor hx hb dX1_step_30 ?_
  obtain rfl := Option.some.inj hf
  exact W.iret hx hb hr (fun t ht hW => ⟨⟨(), rfl, by rw [ht]; exact hP, hD⟩, hS.F ht⟩) hS.2.2 dX1_step_31

set_option maxHeartbeats 4000000 in
set_option maxRecDepth 100000 in
theorem cX1_end_ok (l : Launch) (D : va_G) (y : Nat → ClassId) (p1 : Int32) : CT l D y yX1_end wsX1_end ({ frames := 0, cells := 0, slots := 0, locals := 0 } : Room) [.int p1] [] (some (.int (p1 ^^^ (-1 : Int32)))) [] := by
  intro sz
  refine Met.ofW (cc := cX1_end) (maxL := 1) (ret := (some .int)) (by decide) rfl ?_
  intro p e s m args below meth c s₁ B hml hv
  obtain ⟨rfl, hsz, hP, hK, hD0, hst, hno⟩ := hv
  have hx := B.exec
  have hb := B.bytes
  have hr := B.returns
  have hts := atoms_spec (ws := wsX1_end) B.pre
  have hown : s.vm.findClass RX1 = some m.cls := findClass_of_methodNamed B.named
  have hlocks := B.notSynchronized
  subst hsz
  have hD := hD0.self (sz := s.heap.size)
  generalize hAe : va_A [] s.heap.size = A at hD hst ⊢
  have hA : ∀ q : Nat, s.heap.size ≤ q → A q := fun q h => by rw [← hAe]; exact Or.inr h
  have hS : va_S A s.heap s.heap [] := va_S.rf
  have E : Ev D y A s := ⟨hK, hst, hno, hA⟩
  have hfix : CallFix p m c cX1_end 1 s _ wsX1_end RX1 := ⟨hx, hb, hml, hown, hts⟩
  have hP : va_P D vwCl [] s.heap := hP
  have hl := lv_entry ([.int p1]) (n := 1) (Nat.le_of_ble_eq_true rfl)
  rw [lg_entry_eq]
  generalize (lg_sl ([.int p1]) ++ List.replicate (1 - (lg_sl ([.int p1])).length) Slot.unset).toArray = ls at hl ⊢
  have hl : lv_has ls 1 [(0, .int p1)] := hl
  refine lv_iload_n hx hb dX1_end_0 rfl (lv_at hl 0 rfl) ?_
  refine lv_iconst (v := (-1 : Int32)) hx hb dX1_end_1 (by decide) ?_
  refine lv_ixor hx hb dX1_end_2 ?_
  exact W.iret hx hb hr (fun t ht hW => ⟨⟨(), rfl, by rw [ht]; exact hP, hD⟩, hS.F ht⟩) hS.2.2 dX1_end_3

set_option maxHeartbeats 4000000 in
set_option maxRecDepth 100000 in
theorem cX0_size_ok (l : Launch) (D : va_G) (y : Nat → ClassId) (ak : Nat) (ar : Nat) (nb : Nat) (bb : Nat → Int32) : CT l D y yX0_size wsX0_size ({ frames := 0, cells := 0, slots := 0, locals := 0 } : Room) [.ref ak] [(ak, .inr (0, [.ref ar])), (ar, .inl (y 0, nb, .inl bb))] (some (.int (nI nb))) [(ak, .inr (0, [.ref ar])), (ar, .inl (y 0, nb, .inl bb))] := by
  intro sz
  refine Met.ofW (cc := cX0_size) (maxL := 1) (ret := (some .int)) (by decide) rfl ?_
  intro p e s m args below meth c s₁ B hml hv
  obtain ⟨rfl, hsz, hP, hK, hD0, hst, hno⟩ := hv
  have hx := B.exec
  have hb := B.bytes
  have hr := B.returns
  have hts := atoms_spec (ws := wsX0_size) B.pre
  have hown : s.vm.findClass RX0 = some m.cls := findClass_of_methodNamed B.named
  have hlocks := B.notSynchronized
  subst hsz
  have hD := hD0.self (sz := s.heap.size)
  generalize hAe : va_A [(ak, .inr (0, [.ref ar])), (ar, .inl (y 0, nb, .inl bb))] s.heap.size = A at hD hst ⊢
  have hA : ∀ q : Nat, s.heap.size ≤ q → A q := fun q h => by rw [← hAe]; exact Or.inr h
  have hS : va_S A s.heap s.heap [] := va_S.rf
  have E : Ev D y A s := ⟨hK, hst, hno, hA⟩
  have hfix : CallFix p m c cX0_size 1 s _ wsX0_size RX0 := ⟨hx, hb, hml, hown, hts⟩
  have hP : va_P D vwCl [(ak, .inr (0, [.ref ar])), (ar, .inl (y 0, nb, .inl bb))] s.heap := hP
  have iX0 : ∀ w ∈ wsX00, w ∈ wsX0_size := by decide +kernel
  have hl := lv_entry ([.ref ak]) (n := 1) (Nat.le_of_ble_eq_true rfl)
  rw [lg_entry_eq]
  generalize (lg_sl ([.ref ak]) ++ List.replicate (1 - (lg_sl ([.ref ak])).length) Slot.unset).toArray = ls at hl ⊢
  have hl : lv_has ls 1 [(0, .ref ak)] := hl
  refine lv_aload_n hx hb dX0_size_0 rfl (lv_at hl 0 rfl) ?_
  refine va_get (D := D) (ci := 0) (v := .ref ar) (C := RX0) (T := TX0) (N := 1) hx hb hts iX0 hown hK hP 0 rfl rfl 0 (by decide) (hts (.fieldLink RX0 15 "SampleTracker$Bank" "bytes" "[B") (by decide +kernel)) (fun _ h9 => h9) rfl dX0_size_1 ?_
  refine va_alen (v := (nI nb)) hx hb hK hP 1 0 rfl rfl rfl dX0_size_4 ?_
  exact W.iret hx hb hr (fun t ht hW => ⟨⟨(), rfl, by rw [ht]; exact hP, hD⟩, hS.F ht⟩) hS.2.2 dX0_size_5

def fX0_at (nb : Nat) (bb : Nat → Int32) (p1 : Int32) : Option (Int32) := (if p1 < 0 then some (-1 : Int32) else (if (nI nb) ≤ p1 then some (-1 : Int32) else (if (ib p1 nb) = true then some ((bb p1.toNatClampNeg) &&& (255 : Int32)) else none)))

set_option maxHeartbeats 4000000 in
set_option maxRecDepth 100000 in
theorem cX0_at_ok (l : Launch) (D : va_G) (y : Nat → ClassId) (ak : Nat) (ar : Nat) (nb : Nat) (bb : Nat → Int32) (p1 : Int32) (res : Int32) (hf : fX0_at nb bb p1 = some res) : CT l D y yX0_at wsX0_at ({ frames := 0, cells := 0, slots := 0, locals := 0 } : Room) [.ref ak, .int p1] [(ak, .inr (0, [.ref ar])), (ar, .inl (y 0, nb, .inl bb))] (some (.int res)) [(ak, .inr (0, [.ref ar])), (ar, .inl (y 0, nb, .inl bb))] := by
  intro sz
  refine Met.ofW (cc := cX0_at) (maxL := 2) (ret := (some .int)) (by decide) rfl ?_
  intro p e s m args below meth c s₁ B hml hv
  obtain ⟨rfl, hsz, hP, hK, hD0, hst, hno⟩ := hv
  have hx := B.exec
  have hb := B.bytes
  have hr := B.returns
  have hts := atoms_spec (ws := wsX0_at) B.pre
  have hown : s.vm.findClass RX0 = some m.cls := findClass_of_methodNamed B.named
  have hlocks := B.notSynchronized
  subst hsz
  have hD := hD0.self (sz := s.heap.size)
  generalize hAe : va_A [(ak, .inr (0, [.ref ar])), (ar, .inl (y 0, nb, .inl bb))] s.heap.size = A at hD hst ⊢
  have hA : ∀ q : Nat, s.heap.size ≤ q → A q := fun q h => by rw [← hAe]; exact Or.inr h
  have hS : va_S A s.heap s.heap [] := va_S.rf
  have E : Ev D y A s := ⟨hK, hst, hno, hA⟩
  have hfix : CallFix p m c cX0_at 2 s _ wsX0_at RX0 := ⟨hx, hb, hml, hown, hts⟩
  have hP : va_P D vwCl [(ak, .inr (0, [.ref ar])), (ar, .inl (y 0, nb, .inl bb))] s.heap := hP
  have iX0 : ∀ w ∈ wsX00, w ∈ wsX0_at := by decide +kernel
  have hl := lv_entry ([.ref ak, .int p1]) (n := 2) (Nat.le_of_ble_eq_true rfl)
  rw [lg_entry_eq]
  generalize (lg_sl ([.ref ak, .int p1]) ++ List.replicate (2 - (lg_sl ([.ref ak, .int p1])).length) Slot.unset).toArray = ls at hl ⊢
  have hl : lv_has ls 2 [(0, .ref ak), (1, .int p1)] := hl
  unfold fX0_at at hf
  refine lv_iload_n hx hb dX0_at_0 rfl (lv_at hl 1 rfl) ?_
  refine lv_if_lt (tgt := 26) hx hb dX0_at_1 (by decide) (fun c_1 => ?_) (fun c_1 => ?_)
  · have hf := ifp hf c_1
    refine lv_iconst (v := (-1 : Int32)) hx hb dX0_at_26 (by decide) ?_
    obtain rfl := Option.some.inj hf
    exact W.iret hx hb hr (fun t ht hW => ⟨⟨(), rfl, by rw [ht]; exact hP, hD⟩, hS.F ht⟩) hS.2.2 dX0_at_27
  · have hf := ifn hf c_1
    refine lv_iload_n hx hb dX0_at_4 rfl (lv_at hl 1 rfl) ?_
    refine lv_aload_n hx hb dX0_at_5 rfl (lv_at hl 0 rfl) ?_
    refine va_get (D := D) (ci := 0) (v := .ref ar) (C := RX0) (T := TX0) (N := 1) hx hb hts iX0 hown hK hP 0 rfl rfl 0 (by decide) (hts (.fieldLink RX0 15 "SampleTracker$Bank" "bytes" "[B") (by decide +kernel)) (fun _ h9 => h9) rfl dX0_at_6 ?_
    refine va_alen (v := (nI nb)) hx hb hK hP 1 0 rfl rfl rfl dX0_at_9 ?_
    refine lv_icmp_ge (tgt := 26) hx hb dX0_at_10 (by decide) (fun c_2 => ?_) (fun c_2 => ?_)
    · have hf := ifp hf c_2
      refine lv_iconst (v := (-1 : Int32)) hx hb dX0_at_26 (by decide) ?_
      obtain rfl := Option.some.inj hf
      exact W.iret hx hb hr (fun t ht hW => ⟨⟨(), rfl, by rw [ht]; exact hP, hD⟩, hS.F ht⟩) hS.2.2 dX0_at_27
    · have hf := ifn hf c_2
      refine lv_aload_n hx hb dX0_at_13 rfl (lv_at hl 0 rfl) ?_
      refine va_get (D := D) (ci := 0) (v := .ref ar) (C := RX0) (T := TX0) (N := 1) hx hb hts iX0 hown hK hP 0 rfl rfl 0 (by decide) (hts (.fieldLink RX0 15 "SampleTracker$Bank" "bytes" "[B") (by decide +kernel)) (fun _ h9 => h9) rfl dX0_at_14 ?_
      refine lv_iload_n hx hb dX0_at_17 rfl (lv_at hl 1 rfl) ?_
      obtain ⟨h_3, hf⟩ := ibk hf
      refine va_bald hx hb hK hP 1 0 rfl rfl (ib_in h_3) dX0_at_18 ?_
      refine lv_sipush (v := (255 : Int32)) hx hb dX0_at_19 (by decide) ?_
      refine lv_iand hx hb dX0_at_22 ?_
      refine lv_goto (tgt := 27) hx hb dX0_at_23 (by decide) ?_
      obtain rfl := Option.some.inj hf
      exact W.iret hx hb hr (fun t ht hW => ⟨⟨(), rfl, by rw [ht]; exact hP, hD⟩, hS.F ht⟩) hS.2.2 dX0_at_27

def fX0_put (nb : Nat) (bb : Nat → Int32) (p1 : Int32) (p2 : Int32) : Option ((Nat → Int32)) := (if p1 < 0 then some bb else (if (nI nb) ≤ p1 then some bb else (if (ib p1 nb) = true then some (upd bb p1.toNatClampNeg (vp_nar .byte (p2.toInt8.toInt32))) else none)))

set_option maxHeartbeats 4000000 in
set_option maxRecDepth 100000 in
theorem cX0_put_ok (l : Launch) (D : va_G) (y : Nat → ClassId) (ak : Nat) (ar : Nat) (nb : Nat) (bb : Nat → Int32) (p1 : Int32) (p2 : Int32) (res : (Nat → Int32)) (hf : fX0_put nb bb p1 p2 = some res) : CT l D y yX0_put wsX0_put ({ frames := 0, cells := 0, slots := 0, locals := 0 } : Room) [.ref ak, .int p1, .int p2] [(ak, .inr (0, [.ref ar])), (ar, .inl (y 0, nb, .inl bb))] (none) [(ak, .inr (0, [.ref ar])), (ar, .inl (y 0, nb, .inl res))] := by
  intro sz
  refine Met.ofW (cc := cX0_put) (maxL := 3) (ret := none) (by decide) rfl ?_
  intro p e s m args below meth c s₁ B hml hv
  obtain ⟨rfl, hsz, hP, hK, hD0, hst, hno⟩ := hv
  have hx := B.exec
  have hb := B.bytes
  have hr := B.returns
  have hts := atoms_spec (ws := wsX0_put) B.pre
  have hown : s.vm.findClass RX0 = some m.cls := findClass_of_methodNamed B.named
  have hlocks := B.notSynchronized
  subst hsz
  have hD := hD0.self (sz := s.heap.size)
  generalize hAe : va_A [(ak, .inr (0, [.ref ar])), (ar, .inl (y 0, nb, .inl bb))] s.heap.size = A at hD hst ⊢
  have hA : ∀ q : Nat, s.heap.size ≤ q → A q := fun q h => by rw [← hAe]; exact Or.inr h
  have hS : va_S A s.heap s.heap [] := va_S.rf
  have E : Ev D y A s := ⟨hK, hst, hno, hA⟩
  have hfix : CallFix p m c cX0_put 3 s _ wsX0_put RX0 := ⟨hx, hb, hml, hown, hts⟩
  have hP : va_P D vwCl [(ak, .inr (0, [.ref ar])), (ar, .inl (y 0, nb, .inl bb))] s.heap := hP
  have iX0 : ∀ w ∈ wsX00, w ∈ wsX0_put := by decide +kernel
  have hl := lv_entry ([.ref ak, .int p1, .int p2]) (n := 3) (Nat.le_of_ble_eq_true rfl)
  rw [lg_entry_eq]
  generalize (lg_sl ([.ref ak, .int p1, .int p2]) ++ List.replicate (3 - (lg_sl ([.ref ak, .int p1, .int p2])).length) Slot.unset).toArray = ls at hl ⊢
  have hl : lv_has ls 3 [(0, .ref ak), (1, .int p1), (2, .int p2)] := hl
  unfold fX0_put at hf
  refine lv_iload_n hx hb dX0_put_0 rfl (lv_at hl 1 rfl) ?_
  refine lv_if_lt (tgt := 21) hx hb dX0_put_1 (by decide) (fun c_1 => ?_) (fun c_1 => ?_)
  · have hf := ifp hf c_1
    obtain rfl := Option.some.inj hf
    exact W.vret hx hb hr (fun t ht hW => ⟨⟨(), rfl, by rw [ht]; exact hP, hD⟩, hS.F ht⟩) hS.2.2 dX0_put_21
  · have hf := ifn hf c_1
    refine lv_iload_n hx hb dX0_put_4 rfl (lv_at hl 1 rfl) ?_
    refine lv_aload_n hx hb dX0_put_5 rfl (lv_at hl 0 rfl) ?_
    refine va_get (D := D) (ci := 0) (v := .ref ar) (C := RX0) (T := TX0) (N := 1) hx hb hts iX0 hown hK hP 0 rfl rfl 0 (by decide) (hts (.fieldLink RX0 15 "SampleTracker$Bank" "bytes" "[B") (by decide +kernel)) (fun _ h9 => h9) rfl dX0_put_6 ?_
    refine va_alen (v := (nI nb)) hx hb hK hP 1 0 rfl rfl rfl dX0_put_9 ?_
    refine lv_icmp_ge (tgt := 21) hx hb dX0_put_10 (by decide) (fun c_2 => ?_) (fun c_2 => ?_)
    · have hf := ifp hf c_2
      obtain rfl := Option.some.inj hf
      exact W.vret hx hb hr (fun t ht hW => ⟨⟨(), rfl, by rw [ht]; exact hP, hD⟩, hS.F ht⟩) hS.2.2 dX0_put_21
    · have hf := ifn hf c_2
      refine lv_aload_n hx hb dX0_put_13 rfl (lv_at hl 0 rfl) ?_
      refine va_get (D := D) (ci := 0) (v := .ref ar) (C := RX0) (T := TX0) (N := 1) hx hb hts iX0 hown hK hP 0 rfl rfl 0 (by decide) (hts (.fieldLink RX0 15 "SampleTracker$Bank" "bytes" "[B") (by decide +kernel)) (fun _ h9 => h9) rfl dX0_put_14 ?_
      refine lv_iload_n hx hb dX0_put_17 rfl (lv_at hl 1 rfl) ?_
      refine lv_iload_n hx hb dX0_put_18 rfl (lv_at hl 2 rfl) ?_
      refine lv_i2b (v := (p2.toInt8.toInt32)) hx hb dX0_put_19 rfl ?_
      obtain ⟨h_3, hf⟩ := ibk hf
      refine va_bast hx hb hK hP hD hS 1 0 rfl rfl (ib_in h_3) dX0_put_20 (fun H locs hP hD hS => ?_)
      have hP : va_P D vwCl [(ak, .inr (0, [.ref ar])), (ar, .inl (y 0, nb, .inl (upd bb p1.toNatClampNeg (vp_nar .byte (p2.toInt8.toInt32)))))] H := hP
      have hD : va_D A [(ak, .inr (0, [.ref ar])), (ar, .inl (y 0, nb, .inl (upd bb p1.toNatClampNeg (vp_nar .byte (p2.toInt8.toInt32)))))] := hD
      obtain rfl := Option.some.inj hf
      exact W.vret hx hb hr (fun t ht hW => ⟨⟨(), rfl, by rw [ht]; exact hP, hD⟩, hS.F ht⟩) hS.2.2 dX0_put_21

def fX0_number_5 (nb : Nat) (bb : Nat → Int32) (p1 : Int32) (p2 : Int32) : Nat → Int64 → Int32 → Option (Int64)
  | 0, _, _ => none
  | n + 1, v5_0, v5_1 => (if p2 ≤ v5_1 then some v5_0 else ((fX0_at nb bb (p1 + v5_1)).bind fun r_2 => fX0_number_5 nb bb p1 p2 n ((jlshl v5_0 (8 : Int32)) ||| ((r_2 &&& (255 : Int32)).toInt64)) (v5_1 + (1 : Int32))))

def fX0_number (nb : Nat) (bb : Nat → Int32) (p1 : Int32) (p2 : Int32) : Option (Int64) := fX0_number_5 nb bb p1 p2 FU (0 : Int64) (0 : Int32)

set_option maxHeartbeats 4000000 in
set_option maxRecDepth 100000 in
theorem cX0_number_ok (l : Launch) (D : va_G) (y : Nat → ClassId) (ak : Nat) (ar : Nat) (nb : Nat) (bb : Nat → Int32) (p1 : Int32) (p2 : Int32) (res : Int64) (hf : fX0_number nb bb p1 p2 = some res) : CT l D y yX0_number wsX0_number ({ frames := 1, cells := 0, slots := 0, locals := 21 } : Room) [.ref ak, .int p1, .int p2] [(ak, .inr (0, [.ref ar])), (ar, .inl (y 0, nb, .inl bb))] (some (.long res)) [(ak, .inr (0, [.ref ar])), (ar, .inl (y 0, nb, .inl bb))] := by
  intro sz
  refine Met.ofW (cc := cX0_number) (maxL := 6) (ret := (some .long)) (by decide) rfl ?_
  intro p e s m args below meth c s₁ B hml hv
  obtain ⟨rfl, hsz, hP, hK, hD0, hst, hno⟩ := hv
  have hx := B.exec
  have hb := B.bytes
  have hr := B.returns
  have hts := atoms_spec (ws := wsX0_number) B.pre
  have hown : s.vm.findClass RX0 = some m.cls := findClass_of_methodNamed B.named
  have hlocks := B.notSynchronized
  subst hsz
  have hD := hD0.self (sz := s.heap.size)
  generalize hAe : va_A [(ak, .inr (0, [.ref ar])), (ar, .inl (y 0, nb, .inl bb))] s.heap.size = A at hD hst ⊢
  have hA : ∀ q : Nat, s.heap.size ≤ q → A q := fun q h => by rw [← hAe]; exact Or.inr h
  have hS : va_S A s.heap s.heap [] := va_S.rf
  have E : Ev D y A s := ⟨hK, hst, hno, hA⟩
  have hfix : CallFix p m c cX0_number 6 s _ wsX0_number RX0 := ⟨hx, hb, hml, hown, hts⟩
  have hP : va_P D vwCl [(ak, .inr (0, [.ref ar])), (ar, .inl (y 0, nb, .inl bb))] s.heap := hP
  have hl := lv_entry ([.ref ak, .int p1, .int p2]) (n := 6) (Nat.le_of_ble_eq_true rfl)
  rw [lg_entry_eq]
  generalize (lg_sl ([.ref ak, .int p1, .int p2]) ++ List.replicate (6 - (lg_sl ([.ref ak, .int p1, .int p2])).length) Slot.unset).toArray = ls at hl ⊢
  have hl : lv_has ls 6 [(0, .ref ak), (1, .int p1), (2, .int p2)] := hl
  have hL5 : ∀ (n : Nat) (v5_0 : Int64) (v5_1 : Int32) (H : Heap) (locs : List Loc) (ls : Array Slot), fX0_number_5 nb bb p1 p2 n v5_0 v5_1 = some res → va_P D vwCl [(ak, .inr (0, [.ref ar])), (ar, .inl (y 0, nb, .inl bb))] H → va_D A [(ak, .inr (0, [.ref ar])), (ar, .inl (y 0, nb, .inl bb))] → va_S A s.heap H locs → lv_has ls 6 [(0, .ref ak), (1, .int p1), (2, .int p2), (3, .long v5_0), (5, .int v5_1)] → W p l e (headSpec wsX0_number ({ frames := 1, cells := 0, slots := 0, locals := 21 } : Room)).room s m ([.ref ak, .int p1, .int p2] : List Value).toArray below meth c H locs 0 0 (MQ below (Po D (fun _ : Unit => some (.long res)) (fun _ => [(ak, .inr (0, [.ref ar])), (ar, .inl (y 0, nb, .inl bb))]) A) ([.ref ak, .int p1, .int p2] : List Value).toArray s 0 0 A) (F0 m 5 ls []) := by
    intro n
    induction n with
    | zero =>
      intro v5_0 v5_1 H locs ls hf
      exact absurd (show (none : Option (Int64)) = some res from hf) (fun q => by cases q)
    | succ n ih5 =>
      intro v5_0 v5_1 H locs ls hf hP hD hS hl
      unfold fX0_number_5 at hf
      refine lv_iload hx hb dX0_number_5 (lv_at hl 4 rfl) ?_
      refine lv_iload_n hx hb dX0_number_7 rfl (lv_at hl 2 rfl) ?_
      refine lv_icmp_ge (tgt := 36) hx hb dX0_number_8 (by decide) (fun c_1 => ?_) (fun c_1 => ?_)
      · have hf := ifp hf c_1
        refine lv_lload_n hx hb dX0_number_36 rfl (lv_at hl 3 rfl) ?_
        obtain rfl := Option.some.inj hf
        exact W.lret hx hb hr (fun t ht hW => ⟨⟨(), rfl, by rw [ht]; exact hP, hD⟩, hS.F ht⟩) hS.2.2 dX0_number_37
      · have hf := ifn hf c_1
        refine lv_lload_n hx hb dX0_number_11 rfl (lv_at hl 3 rfl) ?_
        refine lv_bipush (v := (8 : Int32)) hx hb dX0_number_12 (by decide) ?_
        refine lv_lshl (v := (jlshl v5_0 (8 : Int32))) hx hb dX0_number_14 rfl ?_
        refine lv_aload_n hx hb dX0_number_15 rfl (lv_at hl 0 rfl) ?_
        refine lv_iload_n hx hb dX0_number_16 rfl (lv_at hl 1 rfl) ?_
        refine lv_iload hx hb dX0_number_17 (lv_at hl 4 rfl) ?_
        refine lv_iadd hx hb dX0_number_19 ?_
        obtain ⟨r_2, hc_3, hf⟩ := obd hf
        refine ct_V (As := [.int (p1 + v5_1)]) (rest := [.long (jlshl v5_0 (8 : Int32))]) (wr := []) (wn := [(ak, .inr (0, [.ref ar])), (ar, .inl (y 0, nb, .inl bb))]) hfix (cX0_at_ok l D y ak ar nb bb (p1 + v5_1) _ hc_3) (cwV 1 hts gX0_number_X0_at rfl rfl rfl (by decide +kernel) ⟨Nat.le_of_ble_eq_true rfl, Nat.le_of_ble_eq_true rfl⟩) E hP hD hS [0, 1] [] [0, 1] rfl rfl rfl rfl (by decide) rfl rfl 0 0 rfl rfl rfl hl.1 rfl (Nat.le_of_ble_eq_true rfl) dX0_number_20 ⟨Nat.zero_le _, Nat.zero_le _⟩ (fun H locs hP hD hS => ?_)
        refine W.eq (g2 := F0 m 23 ls [.int r_2, .long (jlshl v5_0 (8 : Int32))]) rfl ?_
        refine lv_sipush (v := (255 : Int32)) hx hb dX0_number_23 (by decide) ?_
        refine lv_iand hx hb dX0_number_26 ?_
        refine lv_i2l (v := ((r_2 &&& (255 : Int32)).toInt64)) hx hb dX0_number_27 rfl ?_
        refine lv_lor hx hb dX0_number_28 ?_
        refine lv_lstore_n (lv' := [(3, .long ((jlshl v5_0 (8 : Int32)) ||| ((r_2 &&& (255 : Int32)).toInt64))), (0, .ref ak), (1, .int p1), (2, .int p2), (5, .int v5_1)]) hx hb dX0_number_29 rfl hl (by decide) rfl (fun ls hl => ?_)
        refine lv_iinc (v := (v5_1 + (1 : Int32))) (lv' := [(5, .int (v5_1 + (1 : Int32))), (3, .long ((jlshl v5_0 (8 : Int32)) ||| ((r_2 &&& (255 : Int32)).toInt64))), (0, .ref ak), (1, .int p1), (2, .int p2)]) hx hb dX0_number_30 hl (k := 4) rfl rfl (by decide) rfl (fun ls hl => ?_)
        refine lv_goto (tgt := 5) hx hb dX0_number_33 (by decide) ?_
        exact ih5 ((jlshl v5_0 (8 : Int32)) ||| ((r_2 &&& (255 : Int32)).toInt64)) (v5_1 + (1 : Int32)) _ _ _ hf hP hD hS (lv_sub hl [2, 3, 4, 1, 0] rfl)
  unfold fX0_number at hf
  refine lv_lconst (v := (0 : Int64)) hx hb dX0_number_0 (by decide) ?_
  refine lv_lstore_n (lv' := [(3, .long (0 : Int64)), (0, .ref ak), (1, .int p1), (2, .int p2)]) hx hb dX0_number_1 rfl hl (by decide) rfl (fun ls hl => ?_)
  refine lv_iconst (v := (0 : Int32)) hx hb dX0_number_2 (by decide) ?_
  refine lv_istore (lv' := [(5, .int (0 : Int32)), (3, .long (0 : Int64)), (0, .ref ak), (1, .int p1), (2, .int p2)]) hx hb dX0_number_3 hl (by decide) rfl (fun ls hl => ?_)
  exact hL5 FU (0 : Int64) (0 : Int32) _ _ _ hf hP hD hS (lv_sub hl [2, 3, 4, 1, 0] rfl)

def fX0_isClosedRight_12 (nb : Nat) (bb : Nat → Int32) : Nat → Int32 → Int32 → Int32 → Option (Bool)
  | 0, _, _, _ => none
  | n + 1, v12_0, v12_1, v12_2 => (if v12_0 ≤ v12_2 then ((fX0_number nb bb v12_0 (4 : Int32)).bind fun r_2 => (if (r_2.toInt32) = (v12_1 ^^^ (-1 : Int32)) then ((fX0_at nb bb (v12_0 + (4 : Int32))).bind fun r_6 => (if r_6 = (165 : Int32) then some true else some false)) else some false)) else ((fX0_at nb bb v12_2).bind fun r_9 => ((fX1_step v12_1 r_9).bind fun r_11 => fX0_isClosedRight_12 nb bb n v12_0 r_11 (v12_2 + (1 : Int32)))))

def fX0_isClosedRight (nb : Nat) (bb : Nat → Int32) (p1 : Int32) (p2 : Int32) : Option (Bool) := fX0_isClosedRight_12 nb bb FU ((p1 + p2) - (5 : Int32)) (-1 : Int32) p1

set_option maxHeartbeats 4000000 in
set_option maxRecDepth 100000 in
theorem cX0_isClosedRight_ok (l : Launch) (D : va_G) (y : Nat → ClassId) (ak : Nat) (ar : Nat) (nb : Nat) (bb : Nat → Int32) (p1 : Int32) (p2 : Int32) (res : Bool) (hf : fX0_isClosedRight nb bb p1 p2 = some res) : CT l D y yX0_isClosedRight wsX0_isClosedRight ({ frames := 2, cells := 0, slots := 0, locals := 46 } : Room) [.ref ak, .int p1, .int p2] [(ak, .inr (0, [.ref ar])), (ar, .inl (y 0, nb, .inl bb))] (some (.int (zb res))) [(ak, .inr (0, [.ref ar])), (ar, .inl (y 0, nb, .inl bb))] := by
  intro sz
  refine Met.ofW (cc := cX0_isClosedRight) (maxL := 6) (ret := (some .boolean)) (by decide) rfl ?_
  intro p e s m args below meth c s₁ B hml hv
  obtain ⟨rfl, hsz, hP, hK, hD0, hst, hno⟩ := hv
  have hx := B.exec
  have hb := B.bytes
  have hr := B.returns
  have hts := atoms_spec (ws := wsX0_isClosedRight) B.pre
  have hown : s.vm.findClass RX0 = some m.cls := findClass_of_methodNamed B.named
  have hlocks := B.notSynchronized
  subst hsz
  have hD := hD0.self (sz := s.heap.size)
  generalize hAe : va_A [(ak, .inr (0, [.ref ar])), (ar, .inl (y 0, nb, .inl bb))] s.heap.size = A at hD hst ⊢
  have hA : ∀ q : Nat, s.heap.size ≤ q → A q := fun q h => by rw [← hAe]; exact Or.inr h
  have hS : va_S A s.heap s.heap [] := va_S.rf
  have E : Ev D y A s := ⟨hK, hst, hno, hA⟩
  have hfix : CallFix p m c cX0_isClosedRight 6 s _ wsX0_isClosedRight RX0 := ⟨hx, hb, hml, hown, hts⟩
  have hP : va_P D vwCl [(ak, .inr (0, [.ref ar])), (ar, .inl (y 0, nb, .inl bb))] s.heap := hP
  have hl := lv_entry ([.ref ak, .int p1, .int p2]) (n := 6) (Nat.le_of_ble_eq_true rfl)
  rw [lg_entry_eq]
  generalize (lg_sl ([.ref ak, .int p1, .int p2]) ++ List.replicate (6 - (lg_sl ([.ref ak, .int p1, .int p2])).length) Slot.unset).toArray = ls at hl ⊢
  have hl : lv_has ls 6 [(0, .ref ak), (1, .int p1), (2, .int p2)] := hl
  have hL12 : ∀ (n : Nat) (v12_0 : Int32) (v12_1 : Int32) (v12_2 : Int32) (H : Heap) (locs : List Loc) (ls : Array Slot), fX0_isClosedRight_12 nb bb n v12_0 v12_1 v12_2 = some res → va_P D vwCl [(ak, .inr (0, [.ref ar])), (ar, .inl (y 0, nb, .inl bb))] H → va_D A [(ak, .inr (0, [.ref ar])), (ar, .inl (y 0, nb, .inl bb))] → va_S A s.heap H locs → lv_has ls 6 [(0, .ref ak), (1, .int p1), (2, .int p2), (3, .int v12_0), (4, .int v12_1), (5, .int v12_2)] → W p l e (headSpec wsX0_isClosedRight ({ frames := 2, cells := 0, slots := 0, locals := 46 } : Room)).room s m ([.ref ak, .int p1, .int p2] : List Value).toArray below meth c H locs 0 0 (MQ below (Po D (fun _ : Unit => some (.int (zb res))) (fun _ => [(ak, .inr (0, [.ref ar])), (ar, .inl (y 0, nb, .inl bb))]) A) ([.ref ak, .int p1, .int p2] : List Value).toArray s 0 0 A) (F0 m 12 ls []) := by
    intro n
    induction n with
    | zero =>
      intro v12_0 v12_1 v12_2 H locs ls hf
      exact absurd (show (none : Option (Bool)) = some res from hf) (fun q => by cases q)
    | succ n ih12 =>
      intro v12_0 v12_1 v12_2 H locs ls hf hP hD hS hl
      unfold fX0_isClosedRight_12 at hf
      refine lv_iload hx hb dX0_isClosedRight_12 (lv_at hl 5 rfl) ?_
      refine lv_iload_n hx hb dX0_isClosedRight_14 rfl (lv_at hl 3 rfl) ?_
      refine lv_icmp_ge (tgt := 37) hx hb dX0_isClosedRight_15 (by decide) (fun c_1 => ?_) (fun c_1 => ?_)
      · have hf := ifp hf c_1
        refine lv_aload_n hx hb dX0_isClosedRight_37 rfl (lv_at hl 0 rfl) ?_
        refine lv_iload_n hx hb dX0_isClosedRight_38 rfl (lv_at hl 3 rfl) ?_
        refine lv_iconst (v := (4 : Int32)) hx hb dX0_isClosedRight_39 (by decide) ?_
        obtain ⟨r_2, hc_3, hf⟩ := obd hf
        refine ct_V (As := [.int v12_0, .int (4 : Int32)]) (rest := []) (wr := []) (wn := [(ak, .inr (0, [.ref ar])), (ar, .inl (y 0, nb, .inl bb))]) hfix (cX0_number_ok l D y ak ar nb bb v12_0 (4 : Int32) _ hc_3) (cwV 2 hts gX0_isClosedRight_X0_number rfl rfl rfl (by decide +kernel) ⟨Nat.le_of_ble_eq_true rfl, Nat.le_of_ble_eq_true rfl⟩) E hP hD hS [0, 1] [] [0, 1] rfl rfl rfl rfl (by decide) rfl rfl 0 0 rfl rfl rfl hl.1 rfl (Nat.le_of_ble_eq_true rfl) dX0_isClosedRight_40 ⟨Nat.zero_le _, Nat.zero_le _⟩ (fun H locs hP hD hS => ?_)
        refine W.eq (g2 := F0 m 43 ls [.long r_2]) rfl ?_
        refine lv_l2i (v := (r_2.toInt32)) hx hb dX0_isClosedRight_43 rfl ?_
        refine lv_iload hx hb dX0_isClosedRight_44 (lv_at hl 4 rfl) ?_
        refine ct_S (As := [.int v12_1]) (rest := [.int (r_2.toInt32)]) (wr := [(ak, .inr (0, [.ref ar])), (ar, .inl (y 0, nb, .inl bb))]) (wn := [(ak, .inr (0, [.ref ar])), (ar, .inl (y 0, nb, .inl bb))]) hfix (cX1_end_ok l D y v12_1) (va_cwS 1 hts gX0_isClosedRight_X1_end rfl rfl rfl (by decide +kernel) ⟨Nat.le_of_ble_eq_true rfl, Nat.le_of_ble_eq_true rfl⟩) E hP hD hS [] [0, 1] [0, 1] rfl rfl rfl rfl (by decide) rfl rfl rfl hl.1 rfl (Nat.le_of_ble_eq_true rfl) dX0_isClosedRight_46 ⟨Nat.zero_le _, Nat.zero_le _⟩ (fun H locs hP hD hS => ?_)
        refine W.eq (g2 := F0 m 49 ls [.int (v12_1 ^^^ (-1 : Int32)), .int (r_2.toInt32)]) rfl ?_
        refine lv_icmp_ne (tgt := 69) hx hb dX0_isClosedRight_49 (by decide) (fun c_5 => ?_) (fun c_5 => ?_)
        · have hf := ifn hf c_5
          refine lv_iconst (v := (0 : Int32)) hx hb dX0_isClosedRight_69 (by decide) ?_
          obtain rfl := Option.some.inj hf
          exact W.zret (ty := .boolean) hx hb hr rfl (fun t ht hW => ⟨⟨(), rfl, by rw [ht]; exact hP, hD⟩, hS.F ht⟩) hS.2.2 dX0_isClosedRight_70
        · have hf := ifp hf c_5
          refine lv_aload_n hx hb dX0_isClosedRight_52 rfl (lv_at hl 0 rfl) ?_
          refine lv_iload_n hx hb dX0_isClosedRight_53 rfl (lv_at hl 3 rfl) ?_
          refine lv_iconst (v := (4 : Int32)) hx hb dX0_isClosedRight_54 (by decide) ?_
          refine lv_iadd hx hb dX0_isClosedRight_55 ?_
          obtain ⟨r_6, hc_7, hf⟩ := obd hf
          refine ct_V (As := [.int (v12_0 + (4 : Int32))]) (rest := []) (wr := []) (wn := [(ak, .inr (0, [.ref ar])), (ar, .inl (y 0, nb, .inl bb))]) hfix (cX0_at_ok l D y ak ar nb bb (v12_0 + (4 : Int32)) _ hc_7) (cwV 1 hts gX0_isClosedRight_X0_at rfl rfl rfl (by decide +kernel) ⟨Nat.le_of_ble_eq_true rfl, Nat.le_of_ble_eq_true rfl⟩) E hP hD hS [0, 1] [] [0, 1] rfl rfl rfl rfl (by decide) rfl rfl 0 0 rfl rfl rfl hl.1 rfl (Nat.le_of_ble_eq_true rfl) dX0_isClosedRight_56 ⟨Nat.zero_le _, Nat.zero_le _⟩ (fun H locs hP hD hS => ?_)
          refine W.eq (g2 := F0 m 59 ls [.int r_6]) rfl ?_
          refine lv_sipush (v := (165 : Int32)) hx hb dX0_isClosedRight_59 (by decide) ?_
          refine lv_icmp_ne (tgt := 69) hx hb dX0_isClosedRight_62 (by decide) (fun c_8 => ?_) (fun c_8 => ?_)
          · have hf := ifn hf c_8
            refine lv_iconst (v := (0 : Int32)) hx hb dX0_isClosedRight_69 (by decide) ?_
            obtain rfl := Option.some.inj hf
            exact W.zret (ty := .boolean) hx hb hr rfl (fun t ht hW => ⟨⟨(), rfl, by rw [ht]; exact hP, hD⟩, hS.F ht⟩) hS.2.2 dX0_isClosedRight_70
          · have hf := ifp hf c_8
            refine lv_iconst (v := (1 : Int32)) hx hb dX0_isClosedRight_65 (by decide) ?_
            refine lv_goto (tgt := 70) hx hb dX0_isClosedRight_66 (by decide) ?_
            obtain rfl := Option.some.inj hf
            exact W.zret (ty := .boolean) hx hb hr rfl (fun t ht hW => ⟨⟨(), rfl, by rw [ht]; exact hP, hD⟩, hS.F ht⟩) hS.2.2 dX0_isClosedRight_70
      · have hf := ifn hf c_1
        refine lv_iload hx hb dX0_isClosedRight_18 (lv_at hl 4 rfl) ?_
        refine lv_aload_n hx hb dX0_isClosedRight_20 rfl (lv_at hl 0 rfl) ?_
        refine lv_iload hx hb dX0_isClosedRight_21 (lv_at hl 5 rfl) ?_
        obtain ⟨r_9, hc_10, hf⟩ := obd hf
        refine ct_V (As := [.int v12_2]) (rest := [.int v12_1]) (wr := []) (wn := [(ak, .inr (0, [.ref ar])), (ar, .inl (y 0, nb, .inl bb))]) hfix (cX0_at_ok l D y ak ar nb bb v12_2 _ hc_10) (cwV 1 hts gX0_isClosedRight_X0_at rfl rfl rfl (by decide +kernel) ⟨Nat.le_of_ble_eq_true rfl, Nat.le_of_ble_eq_true rfl⟩) E hP hD hS [0, 1] [] [0, 1] rfl rfl rfl rfl (by decide) rfl rfl 0 0 rfl rfl rfl hl.1 rfl (Nat.le_of_ble_eq_true rfl) dX0_isClosedRight_23 ⟨Nat.zero_le _, Nat.zero_le _⟩ (fun H locs hP hD hS => ?_)
        refine W.eq (g2 := F0 m 26 ls [.int r_9, .int v12_1]) rfl ?_
        obtain ⟨r_11, hc_12, hf⟩ := obd hf
        refine ct_S (As := [.int v12_1, .int r_9]) (rest := []) (wr := [(ak, .inr (0, [.ref ar])), (ar, .inl (y 0, nb, .inl bb))]) (wn := [(ak, .inr (0, [.ref ar])), (ar, .inl (y 0, nb, .inl bb))]) hfix (cX1_step_ok l D y v12_1 r_9 _ hc_12) (va_cwS 2 hts gX0_isClosedRight_X1_step rfl rfl rfl (by decide +kernel) ⟨Nat.le_of_ble_eq_true rfl, Nat.le_of_ble_eq_true rfl⟩) E hP hD hS [] [0, 1] [0, 1] rfl rfl rfl rfl (by decide) rfl rfl rfl hl.1 rfl (Nat.le_of_ble_eq_true rfl) dX0_isClosedRight_26 ⟨Nat.zero_le _, Nat.zero_le _⟩ (fun H locs hP hD hS => ?_)
        refine W.eq (g2 := F0 m 29 ls [.int r_11]) rfl ?_
        refine lv_istore (lv' := [(4, .int r_11), (0, .ref ak), (1, .int p1), (2, .int p2), (3, .int v12_0), (5, .int v12_2)]) hx hb dX0_isClosedRight_29 hl (by decide) rfl (fun ls hl => ?_)
        refine lv_iinc (v := (v12_2 + (1 : Int32))) (lv' := [(5, .int (v12_2 + (1 : Int32))), (4, .int r_11), (0, .ref ak), (1, .int p1), (2, .int p2), (3, .int v12_0)]) hx hb dX0_isClosedRight_31 hl (k := 5) rfl rfl (by decide) rfl (fun ls hl => ?_)
        refine lv_goto (tgt := 12) hx hb dX0_isClosedRight_34 (by decide) ?_
        exact ih12 v12_0 r_11 (v12_2 + (1 : Int32)) _ _ _ hf hP hD hS (lv_sub hl [2, 3, 4, 5, 1, 0] rfl)
  unfold fX0_isClosedRight at hf
  refine lv_iload_n hx hb dX0_isClosedRight_0 rfl (lv_at hl 1 rfl) ?_
  refine lv_iload_n hx hb dX0_isClosedRight_1 rfl (lv_at hl 2 rfl) ?_
  refine lv_iadd hx hb dX0_isClosedRight_2 ?_
  refine lv_iconst (v := (5 : Int32)) hx hb dX0_isClosedRight_3 (by decide) ?_
  refine lv_isub hx hb dX0_isClosedRight_4 ?_
  refine lv_istore_n (lv' := [(3, .int ((p1 + p2) - (5 : Int32))), (0, .ref ak), (1, .int p1), (2, .int p2)]) hx hb dX0_isClosedRight_5 rfl hl (by decide) rfl (fun ls hl => ?_)
  refine lv_iconst (v := (-1 : Int32)) hx hb dX0_isClosedRight_6 (by decide) ?_
  refine lv_istore (lv' := [(4, .int (-1 : Int32)), (3, .int ((p1 + p2) - (5 : Int32))), (0, .ref ak), (1, .int p1), (2, .int p2)]) hx hb dX0_isClosedRight_7 hl (by decide) rfl (fun ls hl => ?_)
  refine lv_iload_n hx hb dX0_isClosedRight_9 rfl (lv_at hl 3 rfl) ?_
  refine lv_istore (lv' := [(5, .int p1), (4, .int (-1 : Int32)), (3, .int ((p1 + p2) - (5 : Int32))), (0, .ref ak), (1, .int p1), (2, .int p2)]) hx hb dX0_isClosedRight_10 hl (by decide) rfl (fun ls hl => ?_)
  exact hL12 FU ((p1 + p2) - (5 : Int32)) (-1 : Int32) p1 _ _ _ hf hP hD hS (lv_sub hl [3, 4, 5, 2, 1, 0] rfl)

def fX0_hasRightHead (nb : Nat) (bb : Nat → Int32) : Option (Bool) := ((fX0_isClosedRight nb bb (0 : Int32) (9 : Int32)).bind fun r_1 => some r_1)

set_option maxHeartbeats 4000000 in
set_option maxRecDepth 100000 in
theorem cX0_hasRightHead_ok (l : Launch) (D : va_G) (y : Nat → ClassId) (ak : Nat) (ar : Nat) (nb : Nat) (bb : Nat → Int32) (res : Bool) (hf : fX0_hasRightHead nb bb = some res) : CT l D y yX0_hasRightHead wsX0_hasRightHead ({ frames := 3, cells := 0, slots := 0, locals := 71 } : Room) [.ref ak] [(ak, .inr (0, [.ref ar])), (ar, .inl (y 0, nb, .inl bb))] (some (.int (zb res))) [(ak, .inr (0, [.ref ar])), (ar, .inl (y 0, nb, .inl bb))] := by
  intro sz
  refine Met.ofW (cc := cX0_hasRightHead) (maxL := 1) (ret := (some .boolean)) (by decide) rfl ?_
  intro p e s m args below meth c s₁ B hml hv
  obtain ⟨rfl, hsz, hP, hK, hD0, hst, hno⟩ := hv
  have hx := B.exec
  have hb := B.bytes
  have hr := B.returns
  have hts := atoms_spec (ws := wsX0_hasRightHead) B.pre
  have hown : s.vm.findClass RX0 = some m.cls := findClass_of_methodNamed B.named
  have hlocks := B.notSynchronized
  subst hsz
  have hD := hD0.self (sz := s.heap.size)
  generalize hAe : va_A [(ak, .inr (0, [.ref ar])), (ar, .inl (y 0, nb, .inl bb))] s.heap.size = A at hD hst ⊢
  have hA : ∀ q : Nat, s.heap.size ≤ q → A q := fun q h => by rw [← hAe]; exact Or.inr h
  have hS : va_S A s.heap s.heap [] := va_S.rf
  have E : Ev D y A s := ⟨hK, hst, hno, hA⟩
  have hfix : CallFix p m c cX0_hasRightHead 1 s _ wsX0_hasRightHead RX0 := ⟨hx, hb, hml, hown, hts⟩
  have hP : va_P D vwCl [(ak, .inr (0, [.ref ar])), (ar, .inl (y 0, nb, .inl bb))] s.heap := hP
  have hl := lv_entry ([.ref ak]) (n := 1) (Nat.le_of_ble_eq_true rfl)
  rw [lg_entry_eq]
  generalize (lg_sl ([.ref ak]) ++ List.replicate (1 - (lg_sl ([.ref ak])).length) Slot.unset).toArray = ls at hl ⊢
  have hl : lv_has ls 1 [(0, .ref ak)] := hl
  unfold fX0_hasRightHead at hf
  refine lv_aload_n hx hb dX0_hasRightHead_0 rfl (lv_at hl 0 rfl) ?_
  refine lv_iconst (v := (0 : Int32)) hx hb dX0_hasRightHead_1 (by decide) ?_
  refine lv_bipush (v := (9 : Int32)) hx hb dX0_hasRightHead_2 (by decide) ?_
  obtain ⟨r_1, hc_2, hf⟩ := obd hf
  refine ct_V (As := [.int (0 : Int32), .int (9 : Int32)]) (rest := []) (wr := []) (wn := [(ak, .inr (0, [.ref ar])), (ar, .inl (y 0, nb, .inl bb))]) hfix (cX0_isClosedRight_ok l D y ak ar nb bb (0 : Int32) (9 : Int32) _ hc_2) (cwV 2 hts gX0_hasRightHead_X0_isClosedRight rfl rfl rfl (by decide +kernel) ⟨Nat.le_of_ble_eq_true rfl, Nat.le_of_ble_eq_true rfl⟩) E hP hD hS [0, 1] [] [0, 1] rfl rfl rfl rfl (by decide) rfl rfl 0 0 rfl rfl rfl hl.1 rfl (Nat.le_of_ble_eq_true rfl) dX0_hasRightHead_4 ⟨Nat.zero_le _, Nat.zero_le _⟩ (fun H locs hP hD hS => ?_)
  refine W.eq (g2 := F0 m 7 ls [.int (zb r_1)]) rfl ?_
  obtain rfl := Option.some.inj hf
  exact W.zret (ty := .boolean) hx hb hr (zb_nar _) (fun t ht hW => ⟨⟨(), rfl, by rw [ht]; exact hP, hD⟩, hS.F ht⟩) hS.2.2 dX0_hasRightHead_7

def fX0_wholeRecordAt (nb : Nat) (bb : Nat → Int32) (p1 : Int32) : Option (Int32) := ((fX0_number nb bb p1 (2 : Int32)).bind fun r_1 => (if (r_1.toInt32) < (8 : Int32) then some (0 : Int32) else (if ((nI nb) - p1) < (r_1.toInt32) then some (0 : Int32) else ((fX0_isClosedRight nb bb p1 (r_1.toInt32)).bind fun r_8 => (if (zb r_8) = 0 then some (0 : Int32) else some (r_1.toInt32))))))

set_option maxHeartbeats 4000000 in
set_option maxRecDepth 100000 in
theorem cX0_wholeRecordAt_ok (l : Launch) (D : va_G) (y : Nat → ClassId) (ak : Nat) (ar : Nat) (nb : Nat) (bb : Nat → Int32) (p1 : Int32) (res : Int32) (hf : fX0_wholeRecordAt nb bb p1 = some res) : CT l D y yX0_wholeRecordAt wsX0_wholeRecordAt ({ frames := 3, cells := 0, slots := 0, locals := 71 } : Room) [.ref ak, .int p1] [(ak, .inr (0, [.ref ar])), (ar, .inl (y 0, nb, .inl bb))] (some (.int res)) [(ak, .inr (0, [.ref ar])), (ar, .inl (y 0, nb, .inl bb))] := by
  intro sz
  refine Met.ofW (cc := cX0_wholeRecordAt) (maxL := 4) (ret := (some .int)) (by decide) rfl ?_
  intro p e s m args below meth c s₁ B hml hv
  obtain ⟨rfl, hsz, hP, hK, hD0, hst, hno⟩ := hv
  have hx := B.exec
  have hb := B.bytes
  have hr := B.returns
  have hts := atoms_spec (ws := wsX0_wholeRecordAt) B.pre
  have hown : s.vm.findClass RX0 = some m.cls := findClass_of_methodNamed B.named
  have hlocks := B.notSynchronized
  subst hsz
  have hD := hD0.self (sz := s.heap.size)
  generalize hAe : va_A [(ak, .inr (0, [.ref ar])), (ar, .inl (y 0, nb, .inl bb))] s.heap.size = A at hD hst ⊢
  have hA : ∀ q : Nat, s.heap.size ≤ q → A q := fun q h => by rw [← hAe]; exact Or.inr h
  have hS : va_S A s.heap s.heap [] := va_S.rf
  have E : Ev D y A s := ⟨hK, hst, hno, hA⟩
  have hfix : CallFix p m c cX0_wholeRecordAt 4 s _ wsX0_wholeRecordAt RX0 := ⟨hx, hb, hml, hown, hts⟩
  have hP : va_P D vwCl [(ak, .inr (0, [.ref ar])), (ar, .inl (y 0, nb, .inl bb))] s.heap := hP
  have iX0 : ∀ w ∈ wsX00, w ∈ wsX0_wholeRecordAt := by decide +kernel
  have hl := lv_entry ([.ref ak, .int p1]) (n := 4) (Nat.le_of_ble_eq_true rfl)
  rw [lg_entry_eq]
  generalize (lg_sl ([.ref ak, .int p1]) ++ List.replicate (4 - (lg_sl ([.ref ak, .int p1])).length) Slot.unset).toArray = ls at hl ⊢
  have hl : lv_has ls 4 [(0, .ref ak), (1, .int p1)] := hl
  unfold fX0_wholeRecordAt at hf
  refine lv_aload_n hx hb dX0_wholeRecordAt_0 rfl (lv_at hl 0 rfl) ?_
  refine lv_iload_n hx hb dX0_wholeRecordAt_1 rfl (lv_at hl 1 rfl) ?_
  refine lv_iconst (v := (2 : Int32)) hx hb dX0_wholeRecordAt_2 (by decide) ?_
  obtain ⟨r_1, hc_2, hf⟩ := obd hf
  refine ct_V (As := [.int p1, .int (2 : Int32)]) (rest := []) (wr := []) (wn := [(ak, .inr (0, [.ref ar])), (ar, .inl (y 0, nb, .inl bb))]) hfix (cX0_number_ok l D y ak ar nb bb p1 (2 : Int32) _ hc_2) (cwV 2 hts gX0_wholeRecordAt_X0_number rfl rfl rfl (by decide +kernel) ⟨Nat.le_of_ble_eq_true rfl, Nat.le_of_ble_eq_true rfl⟩) E hP hD hS [0, 1] [] [0, 1] rfl rfl rfl rfl (by decide) rfl rfl 0 0 rfl rfl rfl hl.1 rfl (Nat.le_of_ble_eq_true rfl) dX0_wholeRecordAt_3 ⟨Nat.zero_le _, Nat.zero_le _⟩ (fun H locs hP hD hS => ?_)
  refine W.eq (g2 := F0 m 6 ls [.long r_1]) rfl ?_
  refine lv_l2i (v := (r_1.toInt32)) hx hb dX0_wholeRecordAt_6 rfl ?_
  refine lv_istore_n (lv' := [(2, .int (r_1.toInt32)), (0, .ref ak), (1, .int p1)]) hx hb dX0_wholeRecordAt_7 rfl hl (by decide) rfl (fun ls hl => ?_)
  refine lv_iload_n hx hb dX0_wholeRecordAt_8 rfl (lv_at hl 0 rfl) ?_
  refine lv_bipush (v := (8 : Int32)) hx hb dX0_wholeRecordAt_9 (by decide) ?_
  refine lv_icmp_lt (tgt := 29) hx hb dX0_wholeRecordAt_11 (by decide) (fun c_3 => ?_) (fun c_3 => ?_)
  · have hf := ifp hf c_3
    refine lv_iconst (v := (0 : Int32)) hx hb dX0_wholeRecordAt_29 (by decide) ?_
    refine lv_istore_n (lv' := [(3, .int (0 : Int32)), (2, .int (r_1.toInt32)), (0, .ref ak), (1, .int p1)]) hx hb dX0_wholeRecordAt_30 rfl hl (by decide) rfl (fun ls hl => ?_)
    refine lv_iload_n hx hb dX0_wholeRecordAt_31 rfl (lv_at hl 0 rfl) ?_
    refine lv_if_eq (tgt := 48) hx hb dX0_wholeRecordAt_32 (by decide) (fun c_4 => ?_) (fun c_4 => absurd (by decide) c_4)
    refine lv_iconst (v := (0 : Int32)) hx hb dX0_wholeRecordAt_48 (by decide) ?_
    obtain rfl := Option.some.inj hf
    exact W.iret hx hb hr (fun t ht hW => ⟨⟨(), rfl, by rw [ht]; exact hP, hD⟩, hS.F ht⟩) hS.2.2 dX0_wholeRecordAt_49
  · have hf := ifn hf c_3
    refine lv_iload_n hx hb dX0_wholeRecordAt_14 rfl (lv_at hl 0 rfl) ?_
    refine lv_aload_n hx hb dX0_wholeRecordAt_15 rfl (lv_at hl 1 rfl) ?_
    refine va_get (D := D) (ci := 0) (v := .ref ar) (C := RX0) (T := TX0) (N := 1) hx hb hts iX0 hown hK hP 0 rfl rfl 0 (by decide) (hts (.fieldLink RX0 15 "SampleTracker$Bank" "bytes" "[B") (by decide +kernel)) (fun _ h9 => h9) rfl dX0_wholeRecordAt_16 ?_
    refine va_alen (v := (nI nb)) hx hb hK hP 1 0 rfl rfl rfl dX0_wholeRecordAt_19 ?_
    refine lv_iload_n hx hb dX0_wholeRecordAt_20 rfl (lv_at hl 2 rfl) ?_
    refine lv_isub hx hb dX0_wholeRecordAt_21 ?_
    refine lv_icmp_gt (tgt := 29) hx hb dX0_wholeRecordAt_22 (by decide) (fun c_5 => ?_) (fun c_5 => ?_)
    · have hf := ifp hf c_5
      refine lv_iconst (v := (0 : Int32)) hx hb dX0_wholeRecordAt_29 (by decide) ?_
      refine lv_istore_n (lv' := [(3, .int (0 : Int32)), (2, .int (r_1.toInt32)), (0, .ref ak), (1, .int p1)]) hx hb dX0_wholeRecordAt_30 rfl hl (by decide) rfl (fun ls hl => ?_)
      refine lv_iload_n hx hb dX0_wholeRecordAt_31 rfl (lv_at hl 0 rfl) ?_
      refine lv_if_eq (tgt := 48) hx hb dX0_wholeRecordAt_32 (by decide) (fun c_6 => ?_) (fun c_6 => absurd (by decide) c_6)
      refine lv_iconst (v := (0 : Int32)) hx hb dX0_wholeRecordAt_48 (by decide) ?_
      obtain rfl := Option.some.inj hf
      exact W.iret hx hb hr (fun t ht hW => ⟨⟨(), rfl, by rw [ht]; exact hP, hD⟩, hS.F ht⟩) hS.2.2 dX0_wholeRecordAt_49
    · have hf := ifn hf c_5
      refine lv_iconst (v := (1 : Int32)) hx hb dX0_wholeRecordAt_25 (by decide) ?_
      refine lv_goto (tgt := 30) hx hb dX0_wholeRecordAt_26 (by decide) ?_
      refine lv_istore_n (lv' := [(3, .int (1 : Int32)), (2, .int (r_1.toInt32)), (0, .ref ak), (1, .int p1)]) hx hb dX0_wholeRecordAt_30 rfl hl (by decide) rfl (fun ls hl => ?_)
      refine lv_iload_n hx hb dX0_wholeRecordAt_31 rfl (lv_at hl 0 rfl) ?_
      refine lv_if_eq (tgt := 48) hx hb dX0_wholeRecordAt_32 (by decide) (fun c_7 => absurd c_7 (by decide)) (fun c_7 => ?_)
      refine lv_aload_n hx hb dX0_wholeRecordAt_35 rfl (lv_at hl 2 rfl) ?_
      refine lv_iload_n hx hb dX0_wholeRecordAt_36 rfl (lv_at hl 3 rfl) ?_
      refine lv_iload_n hx hb dX0_wholeRecordAt_37 rfl (lv_at hl 1 rfl) ?_
      obtain ⟨r_8, hc_9, hf⟩ := obd hf
      refine ct_V (As := [.int p1, .int (r_1.toInt32)]) (rest := []) (wr := []) (wn := [(ak, .inr (0, [.ref ar])), (ar, .inl (y 0, nb, .inl bb))]) hfix (cX0_isClosedRight_ok l D y ak ar nb bb p1 (r_1.toInt32) _ hc_9) (cwV 2 hts gX0_wholeRecordAt_X0_isClosedRight rfl rfl rfl (by decide +kernel) ⟨Nat.le_of_ble_eq_true rfl, Nat.le_of_ble_eq_true rfl⟩) E hP hD hS [0, 1] [] [0, 1] rfl rfl rfl rfl (by decide) rfl rfl 0 0 rfl rfl rfl hl.1 rfl (Nat.le_of_ble_eq_true rfl) dX0_wholeRecordAt_38 ⟨Nat.zero_le _, Nat.zero_le _⟩ (fun H locs hP hD hS => ?_)
      refine W.eq (g2 := F0 m 41 ls [.int (zb r_8)]) rfl ?_
      refine lv_if_eq (tgt := 48) hx hb dX0_wholeRecordAt_41 (by decide) (fun c_10 => ?_) (fun c_10 => ?_)
      · have hf := ifp hf c_10
        refine lv_iconst (v := (0 : Int32)) hx hb dX0_wholeRecordAt_48 (by decide) ?_
        obtain rfl := Option.some.inj hf
        exact W.iret hx hb hr (fun t ht hW => ⟨⟨(), rfl, by rw [ht]; exact hP, hD⟩, hS.F ht⟩) hS.2.2 dX0_wholeRecordAt_49
      · have hf := ifn hf c_10
        refine lv_iload_n hx hb dX0_wholeRecordAt_44 rfl (lv_at hl 1 rfl) ?_
        refine lv_goto (tgt := 49) hx hb dX0_wholeRecordAt_45 (by decide) ?_
        obtain rfl := Option.some.inj hf
        exact W.iret hx hb hr (fun t ht hW => ⟨⟨(), rfl, by rw [ht]; exact hP, hD⟩, hS.F ht⟩) hS.2.2 dX0_wholeRecordAt_49

def fX0_blankFrom_6 (nb : Nat) : Nat → Int32 → (Nat → Int32) → Option ((Nat → Int32))
  | 0, _, _ => none
  | n + 1, v6_0, v6_1 => (if (nI nb) ≤ v6_0 then some v6_1 else (if (ib v6_0 nb) = true then fX0_blankFrom_6 nb n (v6_0 + (1 : Int32)) (upd v6_1 v6_0.toNatClampNeg (vp_nar .byte (0 : Int32))) else none))

def fX0_blankFrom (nb : Nat) (bb : Nat → Int32) (p1 : Int32) : Option ((Nat → Int32)) := fX0_blankFrom_6 nb FU (if (0 : Int32) < p1 then p1 else (0 : Int32)) bb

set_option maxHeartbeats 4000000 in
set_option maxRecDepth 100000 in
theorem cX0_blankFrom_ok (l : Launch) (D : va_G) (y : Nat → ClassId) (ak : Nat) (ar : Nat) (nb : Nat) (bb : Nat → Int32) (p1 : Int32) (res : (Nat → Int32)) (hf : fX0_blankFrom nb bb p1 = some res) : CT l D y yX0_blankFrom wsX0_blankFrom ({ frames := 1, cells := 0, slots := 0, locals := 13 } : Room) [.ref ak, .int p1] [(ak, .inr (0, [.ref ar])), (ar, .inl (y 0, nb, .inl bb))] (none) [(ak, .inr (0, [.ref ar])), (ar, .inl (y 0, nb, .inl res))] := by
  intro sz
  refine Met.ofW (cc := cX0_blankFrom) (maxL := 3) (ret := none) (by decide) rfl ?_
  intro p e s m args below meth c s₁ B hml hv
  obtain ⟨rfl, hsz, hP, hK, hD0, hst, hno⟩ := hv
  have hx := B.exec
  have hb := B.bytes
  have hr := B.returns
  have hts := atoms_spec (ws := wsX0_blankFrom) B.pre
  have hown : s.vm.findClass RX0 = some m.cls := findClass_of_methodNamed B.named
  have hlocks := B.notSynchronized
  subst hsz
  have hD := hD0.self (sz := s.heap.size)
  generalize hAe : va_A [(ak, .inr (0, [.ref ar])), (ar, .inl (y 0, nb, .inl bb))] s.heap.size = A at hD hst ⊢
  have hA : ∀ q : Nat, s.heap.size ≤ q → A q := fun q h => by rw [← hAe]; exact Or.inr h
  have hS : va_S A s.heap s.heap [] := va_S.rf
  have E : Ev D y A s := ⟨hK, hst, hno, hA⟩
  have hfix : CallFix p m c cX0_blankFrom 3 s _ wsX0_blankFrom RX0 := ⟨hx, hb, hml, hown, hts⟩
  have hP : va_P D vwCl [(ak, .inr (0, [.ref ar])), (ar, .inl (y 0, nb, .inl bb))] s.heap := hP
  have iX0 : ∀ w ∈ wsX00, w ∈ wsX0_blankFrom := by decide +kernel
  have hl := lv_entry ([.ref ak, .int p1]) (n := 3) (Nat.le_of_ble_eq_true rfl)
  rw [lg_entry_eq]
  generalize (lg_sl ([.ref ak, .int p1]) ++ List.replicate (3 - (lg_sl ([.ref ak, .int p1])).length) Slot.unset).toArray = ls at hl ⊢
  have hl : lv_has ls 3 [(0, .ref ak), (1, .int p1)] := hl
  have hL6 : ∀ (n : Nat) (v6_0 : Int32) (v6_1 : Nat → Int32) (H : Heap) (locs : List Loc) (ls : Array Slot), fX0_blankFrom_6 nb n v6_0 v6_1 = some res → va_P D vwCl [(ak, .inr (0, [.ref ar])), (ar, .inl (y 0, nb, .inl v6_1))] H → va_D A [(ak, .inr (0, [.ref ar])), (ar, .inl (y 0, nb, .inl v6_1))] → va_S A s.heap H locs → lv_has ls 3 [(0, .ref ak), (1, .int p1), (2, .int v6_0)] → W p l e (headSpec wsX0_blankFrom ({ frames := 1, cells := 0, slots := 0, locals := 13 } : Room)).room s m ([.ref ak, .int p1] : List Value).toArray below meth c H locs 0 0 (MQ below (Po D (fun _ : Unit => none) (fun _ => [(ak, .inr (0, [.ref ar])), (ar, .inl (y 0, nb, .inl res))]) A) ([.ref ak, .int p1] : List Value).toArray s 0 0 A) (F0 m 6 ls []) := by
    intro n
    induction n with
    | zero =>
      intro v6_0 v6_1 H locs ls hf
      exact absurd (show (none : Option ((Nat → Int32))) = some res from hf) (fun q => by cases q)
    | succ n ih6 =>
      intro v6_0 v6_1 H locs ls hf hP hD hS hl
      unfold fX0_blankFrom_6 at hf
      refine lv_iload_n hx hb dX0_blankFrom_6 rfl (lv_at hl 2 rfl) ?_
      refine lv_aload_n hx hb dX0_blankFrom_7 rfl (lv_at hl 0 rfl) ?_
      refine va_get (D := D) (ci := 0) (v := .ref ar) (C := RX0) (T := TX0) (N := 1) hx hb hts iX0 hown hK hP 0 rfl rfl 0 (by decide) (hts (.fieldLink RX0 15 "SampleTracker$Bank" "bytes" "[B") (by decide +kernel)) (fun _ h9 => h9) rfl dX0_blankFrom_8 ?_
      refine va_alen (v := (nI nb)) hx hb hK hP 1 0 rfl rfl rfl dX0_blankFrom_11 ?_
      refine lv_icmp_ge (tgt := 28) hx hb dX0_blankFrom_12 (by decide) (fun c_1 => ?_) (fun c_1 => ?_)
      · have hf := ifp hf c_1
        obtain rfl := Option.some.inj hf
        exact W.vret hx hb hr (fun t ht hW => ⟨⟨(), rfl, by rw [ht]; exact hP, hD⟩, hS.F ht⟩) hS.2.2 dX0_blankFrom_28
      · have hf := ifn hf c_1
        refine lv_aload_n hx hb dX0_blankFrom_15 rfl (lv_at hl 0 rfl) ?_
        refine va_get (D := D) (ci := 0) (v := .ref ar) (C := RX0) (T := TX0) (N := 1) hx hb hts iX0 hown hK hP 0 rfl rfl 0 (by decide) (hts (.fieldLink RX0 15 "SampleTracker$Bank" "bytes" "[B") (by decide +kernel)) (fun _ h9 => h9) rfl dX0_blankFrom_16 ?_
        refine lv_iload_n hx hb dX0_blankFrom_19 rfl (lv_at hl 2 rfl) ?_
        refine lv_iconst (v := (0 : Int32)) hx hb dX0_blankFrom_20 (by decide) ?_
        obtain ⟨h_2, hf⟩ := ibk hf
        refine va_bast hx hb hK hP hD hS 1 0 rfl rfl (ib_in h_2) dX0_blankFrom_21 (fun H locs hP hD hS => ?_)
        have hP : va_P D vwCl [(ak, .inr (0, [.ref ar])), (ar, .inl (y 0, nb, .inl (upd v6_1 v6_0.toNatClampNeg (vp_nar .byte (0 : Int32)))))] H := hP
        have hD : va_D A [(ak, .inr (0, [.ref ar])), (ar, .inl (y 0, nb, .inl (upd v6_1 v6_0.toNatClampNeg (vp_nar .byte (0 : Int32)))))] := hD
        refine lv_iinc (v := (v6_0 + (1 : Int32))) (lv' := [(2, .int (v6_0 + (1 : Int32))), (0, .ref ak), (1, .int p1)]) hx hb dX0_blankFrom_22 hl (k := 2) rfl rfl (by decide) rfl (fun ls hl => ?_)
        refine lv_goto (tgt := 6) hx hb dX0_blankFrom_25 (by decide) ?_
        exact ih6 (v6_0 + (1 : Int32)) (upd v6_1 v6_0.toNatClampNeg (vp_nar .byte (0 : Int32))) _ _ _ hf hP hD hS (lv_sub hl [1, 2, 0] rfl)
  unfold fX0_blankFrom at hf
  refine lv_iconst (v := (0 : Int32)) hx hb dX0_blankFrom_0 (by decide) ?_
  refine lv_iload_n hx hb dX0_blankFrom_1 rfl (lv_at hl 1 rfl) ?_
  refine va_mmax hx hb (by rw [hml]; exact hl.1.symm) hown (hts (.methodLink RX0 9 Lib.Math.max.name) (by decide +kernel)) (hts (.static Lib.Math.max.name) (by decide +kernel)) (hts (.initialized "java/lang/Math") (by decide +kernel)) (hts (.code Lib.Math.max.name Lib.Math.max.code 2 (some .int)) (by decide +kernel)) (Nat.le_of_ble_eq_true rfl) (Nat.le_of_ble_eq_true rfl) (Nat.zero_le _) (Nat.zero_le _) dX0_blankFrom_2 ?_
  refine lv_istore_n (lv' := [(2, .int (if (0 : Int32) < p1 then p1 else (0 : Int32))), (0, .ref ak), (1, .int p1)]) hx hb dX0_blankFrom_5 rfl hl (by decide) rfl (fun ls hl => ?_)
  exact hL6 FU (if (0 : Int32) < p1 then p1 else (0 : Int32)) bb _ _ _ hf hP hD hS (lv_sub hl [1, 2, 0] rfl)

