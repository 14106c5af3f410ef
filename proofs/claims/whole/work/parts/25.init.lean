/-! 19.init: constructors of the class, laid by wip/whole/alloc.py -/
set_option maxHeartbeats 4000000 in
set_option maxRecDepth 100000 in
theorem cX6_init_ok (l : Launch) (D : va_G) (y : Nat → ClassId) (aw : Nat) : CA l D y yX6_init wsX6_init ({ frames := 1, cells := 0, slots := 0, locals := 12 } : Room) [.ref aw] [(aw, .inr (5, [.int (zb false), .int (zb false), .int (0 : Int32), .int (0 : Int32), .int (0 : Int32)]))] (fun _ : Unit => none) (fun _ : Unit => [(aw, .inr (5, [.int (zb true), .int (zb false), .int (0 : Int32), .int (0 : Int32), .int (0 : Int32)]))]) 0 0 := by
  intro sz
  refine Met.ofW (cc := cX6_init) (maxL := 1) (ret := none) (by decide) rfl ?_
  intro p e s m args below meth c s₁ B hml hv
  obtain ⟨rfl, hsz, hP, hK, hD0, hst, hno⟩ := hv
  have hx := B.exec
  have hb := B.bytes
  have hr := B.returns
  have hts := atoms_spec (ws := wsX6_init) B.pre
  have hown : s.vm.findClass RX6 = some m.cls := findClass_of_methodNamed B.named
  have hlocks := B.notSynchronized
  have hin : meth.name = "<init>" := (name_of_methodNamed B.named B.method).1
  subst hsz
  have hD := hD0.self (sz := s.heap.size)
  generalize hAe : va_A [(aw, .inr (5, [.int (zb false), .int (zb false), .int (0 : Int32), .int (0 : Int32), .int (0 : Int32)]))] s.heap.size = A at hD hst ⊢
  have hA : ∀ q : Nat, s.heap.size ≤ q → A q := fun q h => by rw [← hAe]; exact Or.inr h
  have hS : va_S A s.heap s.heap [] := va_S.rf
  have E : Ev D y A s := ⟨hK, hst, hno, hA⟩
  have hfix : CallFix p m c cX6_init 1 s _ wsX6_init RX6 := ⟨hx, hb, hml, hown, hts⟩
  have hP : va_P D vwCl [(aw, .inr (5, [.int (zb false), .int (zb false), .int (0 : Int32), .int (0 : Int32), .int (0 : Int32)]))] s.heap := hP
  have iX6 : ∀ w ∈ wsX60, w ∈ wsX6_init := by decide +kernel
  have hl := lv_entry ([.ref aw]) (n := 1) (Nat.le_of_ble_eq_true rfl)
  rw [lg_entry_eq]
  generalize (lg_sl ([.ref aw]) ++ List.replicate (1 - (lg_sl ([.ref aw])).length) Slot.unset).toArray = ls at hl ⊢
  have hl : lv_has ls 1 [(0, .ref aw)] := hl
  refine lv_aload_n hx hb dX6_init_0 rfl (lv_at hl 0 rfl) ?_
  refine W.objInit hx hb hown (hts (.methodLink RX6 1 objectInit) (by decide +kernel)) (hts (.instanceMethod objectInit) (by decide +kernel)) (hts (.code objectInit ⟨#[0xb1]⟩ 1 none) (by decide +kernel)) rfl (by rw [hml]; exact hl.1) rfl dX6_init_1 (Nat.le_of_ble_eq_true rfl) (Nat.le_of_ble_eq_true rfl) ?_
  refine W.eq (g2 := F0 m 4 ls []) rfl ?_
  refine lv_aload_n hx hb dX6_init_4 rfl (lv_at hl 0 rfl) ?_
  refine lv_iconst (v := (1 : Int32)) hx hb dX6_init_5 (by decide) ?_
  refine va_put (D := D) (ci := 5) (v := .int (1 : Int32)) (ty := .boolean) (C := RX6) (T := TX6) (N := 5) hx hb hts iX6 tyX6 tyX6_ok nmX6 hown hK hP hD hS 0 rfl rfl 0 (by decide) (hts (.fieldLink RX6 7 "SampleTracker$Power" "up" "Z") (by decide +kernel)) (fun _ h9 => h9) rfl (by decide +kernel) rfl rfl (Nat.le_of_ble_eq_true rfl) dX6_init_6 (fun H locs hP hD hS => ?_)
  have hP : va_P D vwCl [(aw, .inr (5, [.int (zb true), .int (zb false), .int (0 : Int32), .int (0 : Int32), .int (0 : Int32)]))] H := hP
  have hD : va_D A [(aw, .inr (5, [.int (zb true), .int (zb false), .int (0 : Int32), .int (0 : Int32), .int (0 : Int32)]))] := hD
  refine lv_aload_n hx hb dX6_init_9 rfl (lv_at hl 0 rfl) ?_
  refine lv_iconst (v := (0 : Int32)) hx hb dX6_init_10 (by decide) ?_
  refine va_put (D := D) (ci := 5) (v := .int (0 : Int32)) (ty := .boolean) (C := RX6) (T := TX6) (N := 5) hx hb hts iX6 tyX6 tyX6_ok nmX6 hown hK hP hD hS 0 rfl rfl 1 (by decide) (hts (.fieldLink RX6 13 "SampleTracker$Power" "cutWaits" "Z") (by decide +kernel)) (fun _ h9 => h9) rfl (by decide +kernel) rfl rfl (Nat.le_of_ble_eq_true rfl) dX6_init_11 (fun H locs hP hD hS => ?_)
  have hP : va_P D vwCl [(aw, .inr (5, [.int (zb true), .int (zb false), .int (0 : Int32), .int (0 : Int32), .int (0 : Int32)]))] H := hP
  have hD : va_D A [(aw, .inr (5, [.int (zb true), .int (zb false), .int (0 : Int32), .int (0 : Int32), .int (0 : Int32)]))] := hD
  refine lv_aload_n hx hb dX6_init_14 rfl (lv_at hl 0 rfl) ?_
  refine lv_iconst (v := (0 : Int32)) hx hb dX6_init_15 (by decide) ?_
  refine va_put (D := D) (ci := 5) (v := .int (0 : Int32)) (ty := .int) (C := RX6) (T := TX6) (N := 5) hx hb hts iX6 tyX6 tyX6_ok nmX6 hown hK hP hD hS 0 rfl rfl 2 (by decide) (hts (.fieldLink RX6 16 "SampleTracker$Power" "bytesLeft" "I") (by decide +kernel)) (fun _ h9 => h9) rfl (by decide +kernel) rfl rfl (Nat.le_of_ble_eq_true rfl) dX6_init_16 (fun H locs hP hD hS => ?_)
  have hP : va_P D vwCl [(aw, .inr (5, [.int (zb true), .int (zb false), .int (0 : Int32), .int (0 : Int32), .int (0 : Int32)]))] H := hP
  have hD : va_D A [(aw, .inr (5, [.int (zb true), .int (zb false), .int (0 : Int32), .int (0 : Int32), .int (0 : Int32)]))] := hD
  refine lv_aload_n hx hb dX6_init_19 rfl (lv_at hl 0 rfl) ?_
  refine lv_iconst (v := (0 : Int32)) hx hb dX6_init_20 (by decide) ?_
  refine va_put (D := D) (ci := 5) (v := .int (0 : Int32)) (ty := .int) (C := RX6) (T := TX6) (N := 5) hx hb hts iX6 tyX6 tyX6_ok nmX6 hown hK hP hD hS 0 rfl rfl 3 (by decide) (hts (.fieldLink RX6 20 "SampleTracker$Power" "written" "I") (by decide +kernel)) (fun _ h9 => h9) rfl (by decide +kernel) rfl rfl (Nat.le_of_ble_eq_true rfl) dX6_init_21 (fun H locs hP hD hS => ?_)
  have hP : va_P D vwCl [(aw, .inr (5, [.int (zb true), .int (zb false), .int (0 : Int32), .int (0 : Int32), .int (0 : Int32)]))] H := hP
  have hD : va_D A [(aw, .inr (5, [.int (zb true), .int (zb false), .int (0 : Int32), .int (0 : Int32), .int (0 : Int32)]))] := hD
  refine lv_aload_n hx hb dX6_init_24 rfl (lv_at hl 0 rfl) ?_
  refine lv_iconst (v := (0 : Int32)) hx hb dX6_init_25 (by decide) ?_
  refine va_put (D := D) (ci := 5) (v := .int (0 : Int32)) (ty := .int) (C := RX6) (T := TX6) (N := 5) hx hb hts iX6 tyX6 tyX6_ok nmX6 hown hK hP hD hS 0 rfl rfl 4 (by decide) (hts (.fieldLink RX6 23 "SampleTracker$Power" "failed" "I") (by decide +kernel)) (fun _ h9 => h9) rfl (by decide +kernel) rfl rfl (Nat.le_of_ble_eq_true rfl) dX6_init_26 (fun H locs hP hD hS => ?_)
  have hP : va_P D vwCl [(aw, .inr (5, [.int (zb true), .int (zb false), .int (0 : Int32), .int (0 : Int32), .int (0 : Int32)]))] H := hP
  have hD : va_D A [(aw, .inr (5, [.int (zb true), .int (zb false), .int (0 : Int32), .int (0 : Int32), .int (0 : Int32)]))] := hD
  refine W.widen (k := 0) (n := 0) (by omega) (by omega) ?_
  exact W.vret hx hb hr (fun t ht hW => ⟨⟨(), rfl, by rw [ht]; exact hP, hD⟩, hS.F ht⟩) hS.2.2 dX6_init_29

set_option maxHeartbeats 4000000 in
set_option maxRecDepth 100000 in
theorem cX2_init_ok (l : Launch) (D : va_G) (y : Nat → ClassId) (ae : Nat) : CA l D y yX2_init wsX2_init ({ frames := 1, cells := 0, slots := 0, locals := 12 } : Room) [.ref ae] [(ae, .inr (1, [.int (0 : Int32), .int (0 : Int32), .int (0 : Int32), .long (0 : Int64)]))] (fun _ : Unit => none) (fun _ : Unit => [(ae, .inr (1, [.int (0 : Int32), .int (0 : Int32), .int (0 : Int32), .long (0 : Int64)]))]) 0 0 := by
  intro sz
  refine Met.ofW (cc := cX2_init) (maxL := 1) (ret := none) (by decide) rfl ?_
  intro p e s m args below meth c s₁ B hml hv
  obtain ⟨rfl, hsz, hP, hK, hD0, hst, hno⟩ := hv
  have hx := B.exec
  have hb := B.bytes
  have hr := B.returns
  have hts := atoms_spec (ws := wsX2_init) B.pre
  have hown : s.vm.findClass RX2 = some m.cls := findClass_of_methodNamed B.named
  have hlocks := B.notSynchronized
  have hin : meth.name = "<init>" := (name_of_methodNamed B.named B.method).1
  subst hsz
  have hD := hD0.self (sz := s.heap.size)
  generalize hAe : va_A [(ae, .inr (1, [.int (0 : Int32), .int (0 : Int32), .int (0 : Int32), .long (0 : Int64)]))] s.heap.size = A at hD hst ⊢
  have hA : ∀ q : Nat, s.heap.size ≤ q → A q := fun q h => by rw [← hAe]; exact Or.inr h
  have hS : va_S A s.heap s.heap [] := va_S.rf
  have E : Ev D y A s := ⟨hK, hst, hno, hA⟩
  have hfix : CallFix p m c cX2_init 1 s _ wsX2_init RX2 := ⟨hx, hb, hml, hown, hts⟩
  have hP : va_P D vwCl [(ae, .inr (1, [.int (0 : Int32), .int (0 : Int32), .int (0 : Int32), .long (0 : Int64)]))] s.heap := hP
  have iX2 : ∀ w ∈ wsX20, w ∈ wsX2_init := by decide +kernel
  have hl := lv_entry ([.ref ae]) (n := 1) (Nat.le_of_ble_eq_true rfl)
  rw [lg_entry_eq]
  generalize (lg_sl ([.ref ae]) ++ List.replicate (1 - (lg_sl ([.ref ae])).length) Slot.unset).toArray = ls at hl ⊢
  have hl : lv_has ls 1 [(0, .ref ae)] := hl
  refine lv_aload_n hx hb dX2_init_0 rfl (lv_at hl 0 rfl) ?_
  refine W.objInit hx hb hown (hts (.methodLink RX2 3 objectInit) (by decide +kernel)) (hts (.instanceMethod objectInit) (by decide +kernel)) (hts (.code objectInit ⟨#[0xb1]⟩ 1 none) (by decide +kernel)) rfl (by rw [hml]; exact hl.1) rfl dX2_init_1 (Nat.le_of_ble_eq_true rfl) (Nat.le_of_ble_eq_true rfl) ?_
  refine W.eq (g2 := F0 m 4 ls []) rfl ?_
  refine lv_aload_n hx hb dX2_init_4 rfl (lv_at hl 0 rfl) ?_
  refine lv_iconst (v := (0 : Int32)) hx hb dX2_init_5 (by decide) ?_
  refine va_put (D := D) (ci := 1) (v := .int (0 : Int32)) (ty := .int) (C := RX2) (T := TX2) (N := 4) hx hb hts iX2 tyX2 tyX2_ok nmX2 hown hK hP hD hS 0 rfl rfl 0 (by decide) (hts (.fieldLink RX2 9 "SampleTracker$Entry" "kind" "I") (by decide +kernel)) (fun _ h9 => h9) rfl (by decide +kernel) rfl rfl (Nat.le_of_ble_eq_true rfl) dX2_init_6 (fun H locs hP hD hS => ?_)
  have hP : va_P D vwCl [(ae, .inr (1, [.int (0 : Int32), .int (0 : Int32), .int (0 : Int32), .long (0 : Int64)]))] H := hP
  have hD : va_D A [(ae, .inr (1, [.int (0 : Int32), .int (0 : Int32), .int (0 : Int32), .long (0 : Int64)]))] := hD
  refine lv_aload_n hx hb dX2_init_9 rfl (lv_at hl 0 rfl) ?_
  refine lv_iconst (v := (0 : Int32)) hx hb dX2_init_10 (by decide) ?_
  refine va_put (D := D) (ci := 1) (v := .int (0 : Int32)) (ty := .int) (C := RX2) (T := TX2) (N := 4) hx hb hts iX2 tyX2 tyX2_ok nmX2 hown hK hP hD hS 0 rfl rfl 1 (by decide) (hts (.fieldLink RX2 15 "SampleTracker$Entry" "sample" "I") (by decide +kernel)) (fun _ h9 => h9) rfl (by decide +kernel) rfl rfl (Nat.le_of_ble_eq_true rfl) dX2_init_11 (fun H locs hP hD hS => ?_)
  have hP : va_P D vwCl [(ae, .inr (1, [.int (0 : Int32), .int (0 : Int32), .int (0 : Int32), .long (0 : Int64)]))] H := hP
  have hD : va_D A [(ae, .inr (1, [.int (0 : Int32), .int (0 : Int32), .int (0 : Int32), .long (0 : Int64)]))] := hD
  refine lv_aload_n hx hb dX2_init_14 rfl (lv_at hl 0 rfl) ?_
  refine lv_iconst (v := (0 : Int32)) hx hb dX2_init_15 (by decide) ?_
  refine va_put (D := D) (ci := 1) (v := .int (0 : Int32)) (ty := .int) (C := RX2) (T := TX2) (N := 4) hx hb hts iX2 tyX2 tyX2_ok nmX2 hown hK hP hD hS 0 rfl rfl 2 (by decide) (hts (.fieldLink RX2 18 "SampleTracker$Entry" "well" "I") (by decide +kernel)) (fun _ h9 => h9) rfl (by decide +kernel) rfl rfl (Nat.le_of_ble_eq_true rfl) dX2_init_16 (fun H locs hP hD hS => ?_)
  have hP : va_P D vwCl [(ae, .inr (1, [.int (0 : Int32), .int (0 : Int32), .int (0 : Int32), .long (0 : Int64)]))] H := hP
  have hD : va_D A [(ae, .inr (1, [.int (0 : Int32), .int (0 : Int32), .int (0 : Int32), .long (0 : Int64)]))] := hD
  refine lv_aload_n hx hb dX2_init_19 rfl (lv_at hl 0 rfl) ?_
  refine lv_lconst (v := (0 : Int64)) hx hb dX2_init_20 (by decide) ?_
  refine va_put (D := D) (ci := 1) (v := .long (0 : Int64)) (ty := .long) (C := RX2) (T := TX2) (N := 4) hx hb hts iX2 tyX2 tyX2_ok nmX2 hown hK hP hD hS 0 rfl rfl 3 (by decide) (hts (.fieldLink RX2 21 "SampleTracker$Entry" "volume" "J") (by decide +kernel)) (fun _ h9 => h9) rfl (by decide +kernel) rfl rfl (Nat.le_of_ble_eq_true rfl) dX2_init_21 (fun H locs hP hD hS => ?_)
  have hP : va_P D vwCl [(ae, .inr (1, [.int (0 : Int32), .int (0 : Int32), .int (0 : Int32), .long (0 : Int64)]))] H := hP
  have hD : va_D A [(ae, .inr (1, [.int (0 : Int32), .int (0 : Int32), .int (0 : Int32), .long (0 : Int64)]))] := hD
  refine W.widen (k := 0) (n := 0) (by omega) (by omega) ?_
  exact W.vret hx hb hr (fun t ht hW => ⟨⟨(), rfl, by rw [ht]; exact hP, hD⟩, hS.F ht⟩) hS.2.2 dX2_init_24

set_option maxHeartbeats 4000000 in
set_option maxRecDepth 100000 in
theorem cX5_init_ok (l : Launch) (D : va_G) (y : Nat → ClassId) (ap : Nat) (aw : Nat) (ak : Nat) : CA l D y yX5_init wsX5_init ({ frames := 1, cells := 0, slots := 0, locals := 12 } : Room) [.ref ap, .ref aw, .ref ak] [(ap, .inr (4, [.null, .null, .int (0 : Int32), .int (0 : Int32)]))] (fun _ : Unit => none) (fun _ : Unit => [(ap, .inr (4, [.ref aw, .ref ak, .int (0 : Int32), .int (-1 : Int32)]))]) 0 0 := by
  intro sz
  refine Met.ofW (cc := cX5_init) (maxL := 3) (ret := none) (by decide) rfl ?_
  intro p e s m args below meth c s₁ B hml hv
  obtain ⟨rfl, hsz, hP, hK, hD0, hst, hno⟩ := hv
  have hx := B.exec
  have hb := B.bytes
  have hr := B.returns
  have hts := atoms_spec (ws := wsX5_init) B.pre
  have hown : s.vm.findClass RX5 = some m.cls := findClass_of_methodNamed B.named
  have hlocks := B.notSynchronized
  have hin : meth.name = "<init>" := (name_of_methodNamed B.named B.method).1
  subst hsz
  have hD := hD0.self (sz := s.heap.size)
  generalize hAe : va_A [(ap, .inr (4, [.null, .null, .int (0 : Int32), .int (0 : Int32)]))] s.heap.size = A at hD hst ⊢
  have hA : ∀ q : Nat, s.heap.size ≤ q → A q := fun q h => by rw [← hAe]; exact Or.inr h
  have hS : va_S A s.heap s.heap [] := va_S.rf
  have E : Ev D y A s := ⟨hK, hst, hno, hA⟩
  have hfix : CallFix p m c cX5_init 3 s _ wsX5_init RX5 := ⟨hx, hb, hml, hown, hts⟩
  have hP : va_P D vwCl [(ap, .inr (4, [.null, .null, .int (0 : Int32), .int (0 : Int32)]))] s.heap := hP
  have iX5 : ∀ w ∈ wsX50, w ∈ wsX5_init := by decide +kernel
  have hl := lv_entry ([.ref ap, .ref aw, .ref ak]) (n := 3) (Nat.le_of_ble_eq_true rfl)
  rw [lg_entry_eq]
  generalize (lg_sl ([.ref ap, .ref aw, .ref ak]) ++ List.replicate (3 - (lg_sl ([.ref ap, .ref aw, .ref ak])).length) Slot.unset).toArray = ls at hl ⊢
  have hl : lv_has ls 3 [(0, .ref ap), (1, .ref aw), (2, .ref ak)] := hl
  refine lv_aload_n hx hb dX5_init_0 rfl (lv_at hl 0 rfl) ?_
  refine W.objInit hx hb hown (hts (.methodLink RX5 3 objectInit) (by decide +kernel)) (hts (.instanceMethod objectInit) (by decide +kernel)) (hts (.code objectInit ⟨#[0xb1]⟩ 1 none) (by decide +kernel)) rfl (by rw [hml]; exact hl.1) rfl dX5_init_1 (Nat.le_of_ble_eq_true rfl) (Nat.le_of_ble_eq_true rfl) ?_
  refine W.eq (g2 := F0 m 4 ls []) rfl ?_
  refine lv_aload_n hx hb dX5_init_4 rfl (lv_at hl 0 rfl) ?_
  refine lv_iconst (v := (0 : Int32)) hx hb dX5_init_5 (by decide) ?_
  refine va_put (D := D) (ci := 4) (v := .int (0 : Int32)) (ty := .int) (C := RX5) (T := TX5) (N := 4) hx hb hts iX5 tyX5 tyX5_ok nmX5 hown hK hP hD hS 0 rfl rfl 2 (by decide) (hts (.fieldLink RX5 9 "SampleTracker$Pen" "position" "I") (by decide +kernel)) (fun _ h9 => h9) rfl (by decide +kernel) rfl rfl (Nat.le_of_ble_eq_true rfl) dX5_init_6 (fun H locs hP hD hS => ?_)
  have hP : va_P D vwCl [(ap, .inr (4, [.null, .null, .int (0 : Int32), .int (0 : Int32)]))] H := hP
  have hD : va_D A [(ap, .inr (4, [.null, .null, .int (0 : Int32), .int (0 : Int32)]))] := hD
  refine lv_aload_n hx hb dX5_init_9 rfl (lv_at hl 0 rfl) ?_
  refine lv_iconst (v := (-1 : Int32)) hx hb dX5_init_10 (by decide) ?_
  refine va_put (D := D) (ci := 4) (v := .int (-1 : Int32)) (ty := .int) (C := RX5) (T := TX5) (N := 4) hx hb hts iX5 tyX5 tyX5_ok nmX5 hown hK hP hD hS 0 rfl rfl 3 (by decide) (hts (.fieldLink RX5 17 "SampleTracker$Pen" "crc" "I") (by decide +kernel)) (fun _ h9 => h9) rfl (by decide +kernel) rfl rfl (Nat.le_of_ble_eq_true rfl) dX5_init_11 (fun H locs hP hD hS => ?_)
  have hP : va_P D vwCl [(ap, .inr (4, [.null, .null, .int (0 : Int32), .int (-1 : Int32)]))] H := hP
  have hD : va_D A [(ap, .inr (4, [.null, .null, .int (0 : Int32), .int (-1 : Int32)]))] := hD
  refine lv_aload_n hx hb dX5_init_14 rfl (lv_at hl 0 rfl) ?_
  refine lv_aload_n hx hb dX5_init_15 rfl (lv_at hl 1 rfl) ?_
  refine va_putF (D := D) (ci := 4) (v := .ref aw) (ty := .object "SampleTracker$Power") (C := RX5) (T := TX5) (N := 4) hx hb hts iX5 tyX5 tyX5_ok nmX5 hown hK hP hD hS 0 rfl rfl 0 (by decide) (hts (.fieldLink RX5 20 "SampleTracker$Pen" "power" "LSampleTracker$Power;") (by decide +kernel)) (fun _ h9 => h9) rfl hin rfl (by decide +kernel) rfl rfl (Nat.le_of_ble_eq_true rfl) dX5_init_16 (fun H locs hP hD hS => ?_)
  have hP : va_P D vwCl [(ap, .inr (4, [.ref aw, .null, .int (0 : Int32), .int (-1 : Int32)]))] H := hP
  have hD : va_D A [(ap, .inr (4, [.ref aw, .null, .int (0 : Int32), .int (-1 : Int32)]))] := hD
  refine lv_aload_n hx hb dX5_init_19 rfl (lv_at hl 0 rfl) ?_
  refine lv_aload_n hx hb dX5_init_20 rfl (lv_at hl 2 rfl) ?_
  refine va_put (D := D) (ci := 4) (v := .ref ak) (ty := .object "SampleTracker$Bank") (C := RX5) (T := TX5) (N := 4) hx hb hts iX5 tyX5 tyX5_ok nmX5 hown hK hP hD hS 0 rfl rfl 1 (by decide) (hts (.fieldLink RX5 24 "SampleTracker$Pen" "bank" "LSampleTracker$Bank;") (by decide +kernel)) (fun _ h9 => h9) rfl (by decide +kernel) rfl rfl (Nat.le_of_ble_eq_true rfl) dX5_init_21 (fun H locs hP hD hS => ?_)
  have hP : va_P D vwCl [(ap, .inr (4, [.ref aw, .ref ak, .int (0 : Int32), .int (-1 : Int32)]))] H := hP
  have hD : va_D A [(ap, .inr (4, [.ref aw, .ref ak, .int (0 : Int32), .int (-1 : Int32)]))] := hD
  refine W.widen (k := 0) (n := 0) (by omega) (by omega) ?_
  exact W.vret hx hb hr (fun t ht hW => ⟨⟨(), rfl, by rw [ht]; exact hP, hD⟩, hS.F ht⟩) hS.2.2 dX5_init_24

set_option maxHeartbeats 4000000 in
set_option maxRecDepth 100000 in
theorem cX0_init_ok (l : Launch) (D : va_G) (y : Nat → ClassId) (ak : Nat) (nb : Nat) (p1 : Int32) (hv0 : szOk p1 nb) : CA l D y yX0_init wsX0_init ({ frames := 1, cells := 1, slots := (0 + nb), locals := 14 } : Room) [.ref ak, .int p1] [(ak, .inr (0, [.null]))] (fun _ : Nat => none) (fun u : Nat => [(ak, .inr (0, [.ref u])), (u, .inl (y 0, nb, .inl (fun _ => (0 : Int32))))]) 1 (0 + nb) := by
  intro sz
  refine Met.ofW (cc := cX0_init) (maxL := 2) (ret := none) (by decide) rfl ?_
  intro p e s m args below meth c s₁ B hml hv
  obtain ⟨rfl, hsz, hP, hK, hD0, hst, hno⟩ := hv
  have hx := B.exec
  have hb := B.bytes
  have hr := B.returns
  have hts := atoms_spec (ws := wsX0_init) B.pre
  have hown : s.vm.findClass RX0 = some m.cls := findClass_of_methodNamed B.named
  have hlocks := B.notSynchronized
  have hin : meth.name = "<init>" := (name_of_methodNamed B.named B.method).1
  subst hsz
  have hD := hD0.self (sz := s.heap.size)
  generalize hAe : va_A [(ak, .inr (0, [.null]))] s.heap.size = A at hD hst ⊢
  have hA : ∀ q : Nat, s.heap.size ≤ q → A q := fun q h => by rw [← hAe]; exact Or.inr h
  have hS : va_S A s.heap s.heap [] := va_S.rf
  have E : Ev D y A s := ⟨hK, hst, hno, hA⟩
  have hfix : CallFix p m c cX0_init 2 s _ wsX0_init RX0 := ⟨hx, hb, hml, hown, hts⟩
  have hP : va_P D vwCl [(ak, .inr (0, [.null]))] s.heap := hP
  have iX0 : ∀ w ∈ wsX00, w ∈ wsX0_init := by decide +kernel
  have hl := lv_entry ([.ref ak, .int p1]) (n := 2) (Nat.le_of_ble_eq_true rfl)
  rw [lg_entry_eq]
  generalize (lg_sl ([.ref ak, .int p1]) ++ List.replicate (2 - (lg_sl ([.ref ak, .int p1])).length) Slot.unset).toArray = ls at hl ⊢
  have hl : lv_has ls 2 [(0, .ref ak), (1, .int p1)] := hl
  refine lv_aload_n hx hb dX0_init_0 rfl (lv_at hl 0 rfl) ?_
  refine W.objInit hx hb hown (hts (.methodLink RX0 3 objectInit) (by decide +kernel)) (hts (.instanceMethod objectInit) (by decide +kernel)) (hts (.code objectInit ⟨#[0xb1]⟩ 1 none) (by decide +kernel)) rfl (by rw [hml]; exact hl.1) rfl dX0_init_1 (Nat.le_of_ble_eq_true rfl) (Nat.le_of_ble_eq_true rfl) ?_
  refine W.eq (g2 := F0 m 4 ls []) rfl ?_
  refine lv_aload_n hx hb dX0_init_4 rfl (lv_at hl 0 rfl) ?_
  refine lv_iconst (v := (0 : Int32)) hx hb dX0_init_5 (by decide) ?_
  refine lv_iload_n hx hb dX0_init_6 rfl (lv_at hl 1 rfl) ?_
  refine va_mmax hx hb (by rw [hml]; exact hl.1.symm) hown (hts (.methodLink RX0 9 Lib.Math.max.name) (by decide +kernel)) (hts (.static Lib.Math.max.name) (by decide +kernel)) (hts (.initialized "java/lang/Math") (by decide +kernel)) (hts (.code Lib.Math.max.name Lib.Math.max.code 2 (some .int)) (by decide +kernel)) (Nat.le_of_ble_eq_true rfl) (Nat.le_of_ble_eq_true rfl) (by show 0 ≤ 1; omega) (by show 0 ≤ (0 + nb); omega) dX0_init_7 ?_
  refine ct_newa (atype := .byte) (ty := .byte) (a0 := (nb, .inl (fun _ => (0 : Int32)))) hx hb (hts (.arrayClass .byte) (by decide +kernel)) rfl E 0 rfl (fun _ h9 => h9) hP hD hS (fun _ => rfl) (sz_n hv0) (sz_N hv0) (sz_b hv0) (by show 0 + 1 ≤ 1; omega) (by show 0 + nb ≤ (0 + nb); omega) dX0_init_10 (fun n_1 H hP hD hS => ?_)
  have hP : va_P D vwCl [(ak, .inr (0, [.null])), (n_1, .inl (y 0, nb, .inl (fun _ => (0 : Int32))))] H := hP
  have hD : va_D A [(ak, .inr (0, [.null])), (n_1, .inl (y 0, nb, .inl (fun _ => (0 : Int32))))] := hD
  refine W.widen (k := 1) (n := (0 + nb)) (by omega) (by omega) ?_
  refine va_putF (D := D) (ci := 0) (v := .ref n_1) (ty := .array .byte) (C := RX0) (T := TX0) (N := 1) hx hb hts iX0 tyX0 tyX0_ok nmX0 hown hK hP hD hS 0 rfl rfl 0 (by decide) (hts (.fieldLink RX0 15 "SampleTracker$Bank" "bytes" "[B") (by decide +kernel)) (fun _ h9 => h9) rfl hin rfl (by decide +kernel) rfl rfl (Nat.le_of_ble_eq_true rfl) dX0_init_12 (fun H locs hP hD hS => ?_)
  have hP : va_P D vwCl [(ak, .inr (0, [.ref n_1])), (n_1, .inl (y 0, nb, .inl (fun _ => (0 : Int32))))] H := hP
  have hD : va_D A [(ak, .inr (0, [.ref n_1])), (n_1, .inl (y 0, nb, .inl (fun _ => (0 : Int32))))] := hD
  refine W.widen (k := 1) (n := (0 + nb)) (by omega) (by omega) ?_
  exact W.vret hx hb hr (fun t ht hW => ⟨⟨n_1, rfl, by rw [ht]; exact hP, hD⟩, hS.F ht⟩) hS.2.2 dX0_init_15

set_option maxHeartbeats 4000000 in
set_option maxRecDepth 100000 in
theorem cX4_init_ok (l : Launch) (D : va_G) (y : Nat → ClassId) (aq : Nat) : CA l D y yX4_init wsX4_init ({ frames := 1, cells := 5, slots := 1280, locals := 12 } : Room) [.ref aq] [(aq, .inr (3, [.null, .null, .null, .null, .null, .int (0 : Int32)]))] (fun _ : Nat × Nat × Nat × Nat × Nat => none) (fun u : Nat × Nat × Nat × Nat × Nat => [(aq, .inr (3, [.ref u.1, .ref u.2.1, .ref u.2.2.1, .ref u.2.2.2.1, .ref u.2.2.2.2, .int (0 : Int32)])), (u.1, .inl (y 1, 256, .inl (fun _ => (0 : Int32)))), (u.2.1, .inl (y 2, 256, .inr (.inl (fun _ => (0 : Int64))))), (u.2.2.1, .inl (y 1, 256, .inl (fun _ => (0 : Int32)))), (u.2.2.2.1, .inl (y 1, 256, .inl (fun _ => (0 : Int32)))), (u.2.2.2.2, .inl (y 2, 256, .inr (.inl (fun _ => (0 : Int64)))))]) 5 1280 := by
  intro sz
  refine Met.ofW (cc := cX4_init) (maxL := 1) (ret := none) (by decide) rfl ?_
  intro p e s m args below meth c s₁ B hml hv
  obtain ⟨rfl, hsz, hP, hK, hD0, hst, hno⟩ := hv
  have hx := B.exec
  have hb := B.bytes
  have hr := B.returns
  have hts := atoms_spec (ws := wsX4_init) B.pre
  have hown : s.vm.findClass RX4 = some m.cls := findClass_of_methodNamed B.named
  have hlocks := B.notSynchronized
  have hin : meth.name = "<init>" := (name_of_methodNamed B.named B.method).1
  subst hsz
  have hD := hD0.self (sz := s.heap.size)
  generalize hAe : va_A [(aq, .inr (3, [.null, .null, .null, .null, .null, .int (0 : Int32)]))] s.heap.size = A at hD hst ⊢
  have hA : ∀ q : Nat, s.heap.size ≤ q → A q := fun q h => by rw [← hAe]; exact Or.inr h
  have hS : va_S A s.heap s.heap [] := va_S.rf
  have E : Ev D y A s := ⟨hK, hst, hno, hA⟩
  have hfix : CallFix p m c cX4_init 1 s _ wsX4_init RX4 := ⟨hx, hb, hml, hown, hts⟩
  have hP : va_P D vwCl [(aq, .inr (3, [.null, .null, .null, .null, .null, .int (0 : Int32)]))] s.heap := hP
  have iX4 : ∀ w ∈ wsX40, w ∈ wsX4_init := by decide +kernel
  have hl := lv_entry ([.ref aq]) (n := 1) (Nat.le_of_ble_eq_true rfl)
  rw [lg_entry_eq]
  generalize (lg_sl ([.ref aq]) ++ List.replicate (1 - (lg_sl ([.ref aq])).length) Slot.unset).toArray = ls at hl ⊢
  have hl : lv_has ls 1 [(0, .ref aq)] := hl
  refine lv_aload_n hx hb dX4_init_0 rfl (lv_at hl 0 rfl) ?_
  refine W.objInit hx hb hown (hts (.methodLink RX4 3 objectInit) (by decide +kernel)) (hts (.instanceMethod objectInit) (by decide +kernel)) (hts (.code objectInit ⟨#[0xb1]⟩ 1 none) (by decide +kernel)) rfl (by rw [hml]; exact hl.1) rfl dX4_init_1 (Nat.le_of_ble_eq_true rfl) (Nat.le_of_ble_eq_true rfl) ?_
  refine W.eq (g2 := F0 m 4 ls []) rfl ?_
  refine lv_aload_n hx hb dX4_init_4 rfl (lv_at hl 0 rfl) ?_
  refine lv_sipush (v := (256 : Int32)) hx hb dX4_init_5 (by decide) ?_
  refine ct_newa (atype := .int) (ty := .int) (a0 := (256, .inl (fun _ => (0 : Int32)))) hx hb (hts (.arrayClass .int) (by decide +kernel)) rfl E 1 rfl (fun _ h9 => h9) hP hD hS (fun _ => rfl) (by decide) rfl (Nat.le_of_ble_eq_true rfl) (by show 0 + 1 ≤ 5; omega) (by show 0 + 256 ≤ 1280; omega) dX4_init_8 (fun n_1 H hP hD hS => ?_)
  have hP : va_P D vwCl [(aq, .inr (3, [.null, .null, .null, .null, .null, .int (0 : Int32)])), (n_1, .inl (y 1, 256, .inl (fun _ => (0 : Int32))))] H := hP
  have hD : va_D A [(aq, .inr (3, [.null, .null, .null, .null, .null, .int (0 : Int32)])), (n_1, .inl (y 1, 256, .inl (fun _ => (0 : Int32))))] := hD
  refine W.widen (k := 1) (n := 256) (by omega) (by omega) ?_
  refine va_putF (D := D) (ci := 3) (v := .ref n_1) (ty := .array .int) (C := RX4) (T := TX4) (N := 6) hx hb hts iX4 tyX4 tyX4_ok nmX4 hown hK hP hD hS 0 rfl rfl 0 (by decide) (hts (.fieldLink RX4 9 "SampleTracker$Past" "samples" "[I") (by decide +kernel)) (fun _ h9 => h9) rfl hin rfl (by decide +kernel) rfl rfl (Nat.le_of_ble_eq_true rfl) dX4_init_10 (fun H locs hP hD hS => ?_)
  have hP : va_P D vwCl [(aq, .inr (3, [.ref n_1, .null, .null, .null, .null, .int (0 : Int32)])), (n_1, .inl (y 1, 256, .inl (fun _ => (0 : Int32))))] H := hP
  have hD : va_D A [(aq, .inr (3, [.ref n_1, .null, .null, .null, .null, .int (0 : Int32)])), (n_1, .inl (y 1, 256, .inl (fun _ => (0 : Int32))))] := hD
  refine lv_aload_n hx hb dX4_init_13 rfl (lv_at hl 0 rfl) ?_
  refine lv_sipush (v := (256 : Int32)) hx hb dX4_init_14 (by decide) ?_
  refine ct_newa (atype := .long) (ty := .long) (a0 := (256, .inr (.inl (fun _ => (0 : Int64))))) hx hb (hts (.arrayClass .long) (by decide +kernel)) rfl E 2 rfl (fun _ h9 => h9) hP hD hS (fun _ => rfl) (by decide) rfl (Nat.le_of_ble_eq_true rfl) (by show 1 + 1 ≤ 5; omega) (by show 256 + 256 ≤ 1280; omega) dX4_init_17 (fun n_2 H hP hD hS => ?_)
  have hP : va_P D vwCl [(aq, .inr (3, [.ref n_1, .null, .null, .null, .null, .int (0 : Int32)])), (n_1, .inl (y 1, 256, .inl (fun _ => (0 : Int32)))), (n_2, .inl (y 2, 256, .inr (.inl (fun _ => (0 : Int64)))))] H := hP
  have hD : va_D A [(aq, .inr (3, [.ref n_1, .null, .null, .null, .null, .int (0 : Int32)])), (n_1, .inl (y 1, 256, .inl (fun _ => (0 : Int32)))), (n_2, .inl (y 2, 256, .inr (.inl (fun _ => (0 : Int64)))))] := hD
  refine W.widen (k := 2) (n := 512) (by omega) (by omega) ?_
  refine va_putF (D := D) (ci := 3) (v := .ref n_2) (ty := .array .long) (C := RX4) (T := TX4) (N := 6) hx hb hts iX4 tyX4 tyX4_ok nmX4 hown hK hP hD hS 0 rfl rfl 1 (by decide) (hts (.fieldLink RX4 15 "SampleTracker$Past" "lost" "[J") (by decide +kernel)) (fun _ h9 => h9) rfl hin rfl (by decide +kernel) rfl rfl (Nat.le_of_ble_eq_true rfl) dX4_init_19 (fun H locs hP hD hS => ?_)
  have hP : va_P D vwCl [(aq, .inr (3, [.ref n_1, .ref n_2, .null, .null, .null, .int (0 : Int32)])), (n_1, .inl (y 1, 256, .inl (fun _ => (0 : Int32)))), (n_2, .inl (y 2, 256, .inr (.inl (fun _ => (0 : Int64)))))] H := hP
  have hD : va_D A [(aq, .inr (3, [.ref n_1, .ref n_2, .null, .null, .null, .int (0 : Int32)])), (n_1, .inl (y 1, 256, .inl (fun _ => (0 : Int32)))), (n_2, .inl (y 2, 256, .inr (.inl (fun _ => (0 : Int64)))))] := hD
  refine lv_aload_n hx hb dX4_init_22 rfl (lv_at hl 0 rfl) ?_
  refine lv_sipush (v := (256 : Int32)) hx hb dX4_init_23 (by decide) ?_
  refine ct_newa (atype := .int) (ty := .int) (a0 := (256, .inl (fun _ => (0 : Int32)))) hx hb (hts (.arrayClass .int) (by decide +kernel)) rfl E 1 rfl (fun _ h9 => h9) hP hD hS (fun _ => rfl) (by decide) rfl (Nat.le_of_ble_eq_true rfl) (by show 2 + 1 ≤ 5; omega) (by show 512 + 256 ≤ 1280; omega) dX4_init_26 (fun n_3 H hP hD hS => ?_)
  have hP : va_P D vwCl [(aq, .inr (3, [.ref n_1, .ref n_2, .null, .null, .null, .int (0 : Int32)])), (n_1, .inl (y 1, 256, .inl (fun _ => (0 : Int32)))), (n_2, .inl (y 2, 256, .inr (.inl (fun _ => (0 : Int64))))), (n_3, .inl (y 1, 256, .inl (fun _ => (0 : Int32))))] H := hP
  have hD : va_D A [(aq, .inr (3, [.ref n_1, .ref n_2, .null, .null, .null, .int (0 : Int32)])), (n_1, .inl (y 1, 256, .inl (fun _ => (0 : Int32)))), (n_2, .inl (y 2, 256, .inr (.inl (fun _ => (0 : Int64))))), (n_3, .inl (y 1, 256, .inl (fun _ => (0 : Int32))))] := hD
  refine W.widen (k := 3) (n := 768) (by omega) (by omega) ?_
  refine va_putF (D := D) (ci := 3) (v := .ref n_3) (ty := .array .int) (C := RX4) (T := TX4) (N := 6) hx hb hts iX4 tyX4 tyX4_ok nmX4 hown hK hP hD hS 0 rfl rfl 2 (by decide) (hts (.fieldLink RX4 19 "SampleTracker$Past" "touched" "[I") (by decide +kernel)) (fun _ h9 => h9) rfl hin rfl (by decide +kernel) rfl rfl (Nat.le_of_ble_eq_true rfl) dX4_init_28 (fun H locs hP hD hS => ?_)
  have hP : va_P D vwCl [(aq, .inr (3, [.ref n_1, .ref n_2, .ref n_3, .null, .null, .int (0 : Int32)])), (n_1, .inl (y 1, 256, .inl (fun _ => (0 : Int32)))), (n_2, .inl (y 2, 256, .inr (.inl (fun _ => (0 : Int64))))), (n_3, .inl (y 1, 256, .inl (fun _ => (0 : Int32))))] H := hP
  have hD : va_D A [(aq, .inr (3, [.ref n_1, .ref n_2, .ref n_3, .null, .null, .int (0 : Int32)])), (n_1, .inl (y 1, 256, .inl (fun _ => (0 : Int32)))), (n_2, .inl (y 2, 256, .inr (.inl (fun _ => (0 : Int64))))), (n_3, .inl (y 1, 256, .inl (fun _ => (0 : Int32))))] := hD
  refine lv_aload_n hx hb dX4_init_31 rfl (lv_at hl 0 rfl) ?_
  refine lv_sipush (v := (256 : Int32)) hx hb dX4_init_32 (by decide) ?_
  refine ct_newa (atype := .int) (ty := .int) (a0 := (256, .inl (fun _ => (0 : Int32)))) hx hb (hts (.arrayClass .int) (by decide +kernel)) rfl E 1 rfl (fun _ h9 => h9) hP hD hS (fun _ => rfl) (by decide) rfl (Nat.le_of_ble_eq_true rfl) (by show 3 + 1 ≤ 5; omega) (by show 768 + 256 ≤ 1280; omega) dX4_init_35 (fun n_4 H hP hD hS => ?_)
  have hP : va_P D vwCl [(aq, .inr (3, [.ref n_1, .ref n_2, .ref n_3, .null, .null, .int (0 : Int32)])), (n_1, .inl (y 1, 256, .inl (fun _ => (0 : Int32)))), (n_2, .inl (y 2, 256, .inr (.inl (fun _ => (0 : Int64))))), (n_3, .inl (y 1, 256, .inl (fun _ => (0 : Int32)))), (n_4, .inl (y 1, 256, .inl (fun _ => (0 : Int32))))] H := hP
  have hD : va_D A [(aq, .inr (3, [.ref n_1, .ref n_2, .ref n_3, .null, .null, .int (0 : Int32)])), (n_1, .inl (y 1, 256, .inl (fun _ => (0 : Int32)))), (n_2, .inl (y 2, 256, .inr (.inl (fun _ => (0 : Int64))))), (n_3, .inl (y 1, 256, .inl (fun _ => (0 : Int32)))), (n_4, .inl (y 1, 256, .inl (fun _ => (0 : Int32))))] := hD
  refine W.widen (k := 4) (n := 1024) (by omega) (by omega) ?_
  refine va_putF (D := D) (ci := 3) (v := .ref n_4) (ty := .array .int) (C := RX4) (T := TX4) (N := 6) hx hb hts iX4 tyX4 tyX4_ok nmX4 hown hK hP hD hS 0 rfl rfl 3 (by decide) (hts (.fieldLink RX4 22 "SampleTracker$Past" "wells" "[I") (by decide +kernel)) (fun _ h9 => h9) rfl hin rfl (by decide +kernel) rfl rfl (Nat.le_of_ble_eq_true rfl) dX4_init_37 (fun H locs hP hD hS => ?_)
  have hP : va_P D vwCl [(aq, .inr (3, [.ref n_1, .ref n_2, .ref n_3, .ref n_4, .null, .int (0 : Int32)])), (n_1, .inl (y 1, 256, .inl (fun _ => (0 : Int32)))), (n_2, .inl (y 2, 256, .inr (.inl (fun _ => (0 : Int64))))), (n_3, .inl (y 1, 256, .inl (fun _ => (0 : Int32)))), (n_4, .inl (y 1, 256, .inl (fun _ => (0 : Int32))))] H := hP
  have hD : va_D A [(aq, .inr (3, [.ref n_1, .ref n_2, .ref n_3, .ref n_4, .null, .int (0 : Int32)])), (n_1, .inl (y 1, 256, .inl (fun _ => (0 : Int32)))), (n_2, .inl (y 2, 256, .inr (.inl (fun _ => (0 : Int64))))), (n_3, .inl (y 1, 256, .inl (fun _ => (0 : Int32)))), (n_4, .inl (y 1, 256, .inl (fun _ => (0 : Int32))))] := hD
  refine lv_aload_n hx hb dX4_init_40 rfl (lv_at hl 0 rfl) ?_
  refine lv_sipush (v := (256 : Int32)) hx hb dX4_init_41 (by decide) ?_
  refine ct_newa (atype := .long) (ty := .long) (a0 := (256, .inr (.inl (fun _ => (0 : Int64))))) hx hb (hts (.arrayClass .long) (by decide +kernel)) rfl E 2 rfl (fun _ h9 => h9) hP hD hS (fun _ => rfl) (by decide) rfl (Nat.le_of_ble_eq_true rfl) (by show 4 + 1 ≤ 5; omega) (by show 1024 + 256 ≤ 1280; omega) dX4_init_44 (fun n_5 H hP hD hS => ?_)
  have hP : va_P D vwCl [(aq, .inr (3, [.ref n_1, .ref n_2, .ref n_3, .ref n_4, .null, .int (0 : Int32)])), (n_1, .inl (y 1, 256, .inl (fun _ => (0 : Int32)))), (n_2, .inl (y 2, 256, .inr (.inl (fun _ => (0 : Int64))))), (n_3, .inl (y 1, 256, .inl (fun _ => (0 : Int32)))), (n_4, .inl (y 1, 256, .inl (fun _ => (0 : Int32)))), (n_5, .inl (y 2, 256, .inr (.inl (fun _ => (0 : Int64)))))] H := hP
  have hD : va_D A [(aq, .inr (3, [.ref n_1, .ref n_2, .ref n_3, .ref n_4, .null, .int (0 : Int32)])), (n_1, .inl (y 1, 256, .inl (fun _ => (0 : Int32)))), (n_2, .inl (y 2, 256, .inr (.inl (fun _ => (0 : Int64))))), (n_3, .inl (y 1, 256, .inl (fun _ => (0 : Int32)))), (n_4, .inl (y 1, 256, .inl (fun _ => (0 : Int32)))), (n_5, .inl (y 2, 256, .inr (.inl (fun _ => (0 : Int64)))))] := hD
  refine W.widen (k := 5) (n := 1280) (by omega) (by omega) ?_
  refine va_putF (D := D) (ci := 3) (v := .ref n_5) (ty := .array .long) (C := RX4) (T := TX4) (N := 6) hx hb hts iX4 tyX4 tyX4_ok nmX4 hown hK hP hD hS 0 rfl rfl 4 (by decide) (hts (.fieldLink RX4 25 "SampleTracker$Past" "volumes" "[J") (by decide +kernel)) (fun _ h9 => h9) rfl hin rfl (by decide +kernel) rfl rfl (Nat.le_of_ble_eq_true rfl) dX4_init_46 (fun H locs hP hD hS => ?_)
  have hP : va_P D vwCl [(aq, .inr (3, [.ref n_1, .ref n_2, .ref n_3, .ref n_4, .ref n_5, .int (0 : Int32)])), (n_1, .inl (y 1, 256, .inl (fun _ => (0 : Int32)))), (n_2, .inl (y 2, 256, .inr (.inl (fun _ => (0 : Int64))))), (n_3, .inl (y 1, 256, .inl (fun _ => (0 : Int32)))), (n_4, .inl (y 1, 256, .inl (fun _ => (0 : Int32)))), (n_5, .inl (y 2, 256, .inr (.inl (fun _ => (0 : Int64)))))] H := hP
  have hD : va_D A [(aq, .inr (3, [.ref n_1, .ref n_2, .ref n_3, .ref n_4, .ref n_5, .int (0 : Int32)])), (n_1, .inl (y 1, 256, .inl (fun _ => (0 : Int32)))), (n_2, .inl (y 2, 256, .inr (.inl (fun _ => (0 : Int64))))), (n_3, .inl (y 1, 256, .inl (fun _ => (0 : Int32)))), (n_4, .inl (y 1, 256, .inl (fun _ => (0 : Int32)))), (n_5, .inl (y 2, 256, .inr (.inl (fun _ => (0 : Int64)))))] := hD
  refine lv_aload_n hx hb dX4_init_49 rfl (lv_at hl 0 rfl) ?_
  refine lv_iconst (v := (0 : Int32)) hx hb dX4_init_50 (by decide) ?_
  refine va_put (D := D) (ci := 3) (v := .int (0 : Int32)) (ty := .int) (C := RX4) (T := TX4) (N := 6) hx hb hts iX4 tyX4 tyX4_ok nmX4 hown hK hP hD hS 0 rfl rfl 5 (by decide) (hts (.fieldLink RX4 28 "SampleTracker$Past" "size" "I") (by decide +kernel)) (fun _ h9 => h9) rfl (by decide +kernel) rfl rfl (Nat.le_of_ble_eq_true rfl) dX4_init_51 (fun H locs hP hD hS => ?_)
  have hP : va_P D vwCl [(aq, .inr (3, [.ref n_1, .ref n_2, .ref n_3, .ref n_4, .ref n_5, .int (0 : Int32)])), (n_1, .inl (y 1, 256, .inl (fun _ => (0 : Int32)))), (n_2, .inl (y 2, 256, .inr (.inl (fun _ => (0 : Int64))))), (n_3, .inl (y 1, 256, .inl (fun _ => (0 : Int32)))), (n_4, .inl (y 1, 256, .inl (fun _ => (0 : Int32)))), (n_5, .inl (y 2, 256, .inr (.inl (fun _ => (0 : Int64)))))] H := hP
  have hD : va_D A [(aq, .inr (3, [.ref n_1, .ref n_2, .ref n_3, .ref n_4, .ref n_5, .int (0 : Int32)])), (n_1, .inl (y 1, 256, .inl (fun _ => (0 : Int32)))), (n_2, .inl (y 2, 256, .inr (.inl (fun _ => (0 : Int64))))), (n_3, .inl (y 1, 256, .inl (fun _ => (0 : Int32)))), (n_4, .inl (y 1, 256, .inl (fun _ => (0 : Int32)))), (n_5, .inl (y 2, 256, .inr (.inl (fun _ => (0 : Int64)))))] := hD
  refine W.widen (k := 5) (n := 1280) (by omega) (by omega) ?_
  exact W.vret hx hb hr (fun t ht hW => ⟨⟨(n_1, n_2, n_3, n_4, n_5), rfl, by rw [ht]; exact hP, hD⟩, hS.F ht⟩) hS.2.2 dX4_init_54

set_option maxHeartbeats 4000000 in
set_option maxRecDepth 100000 in
theorem cX7_init_ok (l : Launch) (D : va_G) (y : Nat → ClassId) (atb : Nat) : CA l D y yX7_init wsX7_init ({ frames := 2, cells := 10, slots := 1770, locals := 32 } : Room) [.ref atb] [(atb, .inr (6, [.null, .null, .null, .null, .null, .int (0 : Int32), .long (0 : Int64)]))] (fun _ : Nat × Nat × Nat × Nat × Nat × Nat × Nat × Nat × Nat × Nat => none) (fun u : Nat × Nat × Nat × Nat × Nat × Nat × Nat × Nat × Nat × Nat => [(atb, .inr (6, [.ref u.1, .ref u.2.1, .ref u.2.2.1, .ref u.2.2.2.1, .ref u.2.2.2.2.1, .int (0 : Int32), .long (0 : Int64)])), (u.1, .inl (y 1, 121, .inl (fun _ => (0 : Int32)))), (u.2.1, .inl (y 1, 121, .inl (fun _ => (0 : Int32)))), (u.2.2.1, .inl (y 2, 121, .inr (.inl (fun _ => (0 : Int64))))), (u.2.2.2.1, .inl (y 3, 121, .inl (fun _ => (0 : Int32)))), (u.2.2.2.2.1, .inr (3, [.ref u.2.2.2.2.2.1, .ref u.2.2.2.2.2.2.1, .ref u.2.2.2.2.2.2.2.1, .ref u.2.2.2.2.2.2.2.2.1, .ref u.2.2.2.2.2.2.2.2.2, .int (0 : Int32)])), (u.2.2.2.2.2.1, .inl (y 1, 256, .inl (fun _ => (0 : Int32)))), (u.2.2.2.2.2.2.1, .inl (y 2, 256, .inr (.inl (fun _ => (0 : Int64))))), (u.2.2.2.2.2.2.2.1, .inl (y 1, 256, .inl (fun _ => (0 : Int32)))), (u.2.2.2.2.2.2.2.2.1, .inl (y 1, 256, .inl (fun _ => (0 : Int32)))), (u.2.2.2.2.2.2.2.2.2, .inl (y 2, 256, .inr (.inl (fun _ => (0 : Int64)))))]) 10 1770 := by
  intro sz
  refine Met.ofW (cc := cX7_init) (maxL := 1) (ret := none) (by decide) rfl ?_
  intro p e s m args below meth c s₁ B hml hv
  obtain ⟨rfl, hsz, hP, hK, hD0, hst, hno⟩ := hv
  have hx := B.exec
  have hb := B.bytes
  have hr := B.returns
  have hts := atoms_spec (ws := wsX7_init) B.pre
  have hown : s.vm.findClass RX7 = some m.cls := findClass_of_methodNamed B.named
  have hlocks := B.notSynchronized
  have hin : meth.name = "<init>" := (name_of_methodNamed B.named B.method).1
  subst hsz
  have hD := hD0.self (sz := s.heap.size)
  generalize hAe : va_A [(atb, .inr (6, [.null, .null, .null, .null, .null, .int (0 : Int32), .long (0 : Int64)]))] s.heap.size = A at hD hst ⊢
  have hA : ∀ q : Nat, s.heap.size ≤ q → A q := fun q h => by rw [← hAe]; exact Or.inr h
  have hS : va_S A s.heap s.heap [] := va_S.rf
  have E : Ev D y A s := ⟨hK, hst, hno, hA⟩
  have hfix : CallFix p m c cX7_init 1 s _ wsX7_init RX7 := ⟨hx, hb, hml, hown, hts⟩
  have hP : va_P D vwCl [(atb, .inr (6, [.null, .null, .null, .null, .null, .int (0 : Int32), .long (0 : Int64)]))] s.heap := hP
  have iX4 : ∀ w ∈ wsX40, w ∈ wsX7_init := by decide +kernel
  have iX7 : ∀ w ∈ wsX70, w ∈ wsX7_init := by decide +kernel
  have hl := lv_entry ([.ref atb]) (n := 1) (Nat.le_of_ble_eq_true rfl)
  rw [lg_entry_eq]
  generalize (lg_sl ([.ref atb]) ++ List.replicate (1 - (lg_sl ([.ref atb])).length) Slot.unset).toArray = ls at hl ⊢
  have hl : lv_has ls 1 [(0, .ref atb)] := hl
  refine lv_aload_n hx hb dX7_init_0 rfl (lv_at hl 0 rfl) ?_
  refine W.objInit hx hb hown (hts (.methodLink RX7 3 objectInit) (by decide +kernel)) (hts (.instanceMethod objectInit) (by decide +kernel)) (hts (.code objectInit ⟨#[0xb1]⟩ 1 none) (by decide +kernel)) rfl (by rw [hml]; exact hl.1) rfl dX7_init_1 (Nat.le_of_ble_eq_true rfl) (Nat.le_of_ble_eq_true rfl) ?_
  refine W.eq (g2 := F0 m 4 ls []) rfl ?_
  refine lv_aload_n hx hb dX7_init_4 rfl (lv_at hl 0 rfl) ?_
  refine lv_bipush (v := (121 : Int32)) hx hb dX7_init_5 (by decide) ?_
  refine ct_newa (atype := .int) (ty := .int) (a0 := (121, .inl (fun _ => (0 : Int32)))) hx hb (hts (.arrayClass .int) (by decide +kernel)) rfl E 1 rfl (fun _ h9 => h9) hP hD hS (fun _ => rfl) (by decide) rfl (Nat.le_of_ble_eq_true rfl) (by show 0 + 1 ≤ 10; omega) (by show 0 + 121 ≤ 1770; omega) dX7_init_7 (fun n_1 H hP hD hS => ?_)
  have hP : va_P D vwCl [(atb, .inr (6, [.null, .null, .null, .null, .null, .int (0 : Int32), .long (0 : Int64)])), (n_1, .inl (y 1, 121, .inl (fun _ => (0 : Int32))))] H := hP
  have hD : va_D A [(atb, .inr (6, [.null, .null, .null, .null, .null, .int (0 : Int32), .long (0 : Int64)])), (n_1, .inl (y 1, 121, .inl (fun _ => (0 : Int32))))] := hD
  refine W.widen (k := 1) (n := 121) (by omega) (by omega) ?_
  refine va_putF (D := D) (ci := 6) (v := .ref n_1) (ty := .array .int) (C := RX7) (T := TX7) (N := 7) hx hb hts iX7 tyX7 tyX7_ok nmX7 hown hK hP hD hS 0 rfl rfl 0 (by decide) (hts (.fieldLink RX7 9 "SampleTracker$Table" "parents" "[I") (by decide +kernel)) (fun _ h9 => h9) rfl hin rfl (by decide +kernel) rfl rfl (Nat.le_of_ble_eq_true rfl) dX7_init_9 (fun H locs hP hD hS => ?_)
  have hP : va_P D vwCl [(atb, .inr (6, [.ref n_1, .null, .null, .null, .null, .int (0 : Int32), .long (0 : Int64)])), (n_1, .inl (y 1, 121, .inl (fun _ => (0 : Int32))))] H := hP
  have hD : va_D A [(atb, .inr (6, [.ref n_1, .null, .null, .null, .null, .int (0 : Int32), .long (0 : Int64)])), (n_1, .inl (y 1, 121, .inl (fun _ => (0 : Int32))))] := hD
  refine lv_aload_n hx hb dX7_init_12 rfl (lv_at hl 0 rfl) ?_
  refine lv_bipush (v := (121 : Int32)) hx hb dX7_init_13 (by decide) ?_
  refine ct_newa (atype := .int) (ty := .int) (a0 := (121, .inl (fun _ => (0 : Int32)))) hx hb (hts (.arrayClass .int) (by decide +kernel)) rfl E 1 rfl (fun _ h9 => h9) hP hD hS (fun _ => rfl) (by decide) rfl (Nat.le_of_ble_eq_true rfl) (by show 1 + 1 ≤ 10; omega) (by show 121 + 121 ≤ 1770; omega) dX7_init_15 (fun n_2 H hP hD hS => ?_)
  have hP : va_P D vwCl [(atb, .inr (6, [.ref n_1, .null, .null, .null, .null, .int (0 : Int32), .long (0 : Int64)])), (n_1, .inl (y 1, 121, .inl (fun _ => (0 : Int32)))), (n_2, .inl (y 1, 121, .inl (fun _ => (0 : Int32))))] H := hP
  have hD : va_D A [(atb, .inr (6, [.ref n_1, .null, .null, .null, .null, .int (0 : Int32), .long (0 : Int64)])), (n_1, .inl (y 1, 121, .inl (fun _ => (0 : Int32)))), (n_2, .inl (y 1, 121, .inl (fun _ => (0 : Int32))))] := hD
  refine W.widen (k := 2) (n := 242) (by omega) (by omega) ?_
  refine va_putF (D := D) (ci := 6) (v := .ref n_2) (ty := .array .int) (C := RX7) (T := TX7) (N := 7) hx hb hts iX7 tyX7 tyX7_ok nmX7 hown hK hP hD hS 0 rfl rfl 1 (by decide) (hts (.fieldLink RX7 15 "SampleTracker$Table" "wells" "[I") (by decide +kernel)) (fun _ h9 => h9) rfl hin rfl (by decide +kernel) rfl rfl (Nat.le_of_ble_eq_true rfl) dX7_init_17 (fun H locs hP hD hS => ?_)
  have hP : va_P D vwCl [(atb, .inr (6, [.ref n_1, .ref n_2, .null, .null, .null, .int (0 : Int32), .long (0 : Int64)])), (n_1, .inl (y 1, 121, .inl (fun _ => (0 : Int32)))), (n_2, .inl (y 1, 121, .inl (fun _ => (0 : Int32))))] H := hP
  have hD : va_D A [(atb, .inr (6, [.ref n_1, .ref n_2, .null, .null, .null, .int (0 : Int32), .long (0 : Int64)])), (n_1, .inl (y 1, 121, .inl (fun _ => (0 : Int32)))), (n_2, .inl (y 1, 121, .inl (fun _ => (0 : Int32))))] := hD
  refine lv_aload_n hx hb dX7_init_20 rfl (lv_at hl 0 rfl) ?_
  refine lv_bipush (v := (121 : Int32)) hx hb dX7_init_21 (by decide) ?_
  refine ct_newa (atype := .long) (ty := .long) (a0 := (121, .inr (.inl (fun _ => (0 : Int64))))) hx hb (hts (.arrayClass .long) (by decide +kernel)) rfl E 2 rfl (fun _ h9 => h9) hP hD hS (fun _ => rfl) (by decide) rfl (Nat.le_of_ble_eq_true rfl) (by show 2 + 1 ≤ 10; omega) (by show 242 + 121 ≤ 1770; omega) dX7_init_23 (fun n_3 H hP hD hS => ?_)
  have hP : va_P D vwCl [(atb, .inr (6, [.ref n_1, .ref n_2, .null, .null, .null, .int (0 : Int32), .long (0 : Int64)])), (n_1, .inl (y 1, 121, .inl (fun _ => (0 : Int32)))), (n_2, .inl (y 1, 121, .inl (fun _ => (0 : Int32)))), (n_3, .inl (y 2, 121, .inr (.inl (fun _ => (0 : Int64)))))] H := hP
  have hD : va_D A [(atb, .inr (6, [.ref n_1, .ref n_2, .null, .null, .null, .int (0 : Int32), .long (0 : Int64)])), (n_1, .inl (y 1, 121, .inl (fun _ => (0 : Int32)))), (n_2, .inl (y 1, 121, .inl (fun _ => (0 : Int32)))), (n_3, .inl (y 2, 121, .inr (.inl (fun _ => (0 : Int64)))))] := hD
  refine W.widen (k := 3) (n := 363) (by omega) (by omega) ?_
  refine va_putF (D := D) (ci := 6) (v := .ref n_3) (ty := .array .long) (C := RX7) (T := TX7) (N := 7) hx hb hts iX7 tyX7 tyX7_ok nmX7 hown hK hP hD hS 0 rfl rfl 2 (by decide) (hts (.fieldLink RX7 18 "SampleTracker$Table" "volumes" "[J") (by decide +kernel)) (fun _ h9 => h9) rfl hin rfl (by decide +kernel) rfl rfl (Nat.le_of_ble_eq_true rfl) dX7_init_25 (fun H locs hP hD hS => ?_)
  have hP : va_P D vwCl [(atb, .inr (6, [.ref n_1, .ref n_2, .ref n_3, .null, .null, .int (0 : Int32), .long (0 : Int64)])), (n_1, .inl (y 1, 121, .inl (fun _ => (0 : Int32)))), (n_2, .inl (y 1, 121, .inl (fun _ => (0 : Int32)))), (n_3, .inl (y 2, 121, .inr (.inl (fun _ => (0 : Int64)))))] H := hP
  have hD : va_D A [(atb, .inr (6, [.ref n_1, .ref n_2, .ref n_3, .null, .null, .int (0 : Int32), .long (0 : Int64)])), (n_1, .inl (y 1, 121, .inl (fun _ => (0 : Int32)))), (n_2, .inl (y 1, 121, .inl (fun _ => (0 : Int32)))), (n_3, .inl (y 2, 121, .inr (.inl (fun _ => (0 : Int64)))))] := hD
  refine lv_aload_n hx hb dX7_init_28 rfl (lv_at hl 0 rfl) ?_
  refine lv_bipush (v := (121 : Int32)) hx hb dX7_init_29 (by decide) ?_
  refine ct_newa (atype := .boolean) (ty := .boolean) (a0 := (121, .inl (fun _ => (0 : Int32)))) hx hb (hts (.arrayClass .boolean) (by decide +kernel)) rfl E 3 rfl (fun _ h9 => h9) hP hD hS (fun _ => rfl) (by decide) rfl (Nat.le_of_ble_eq_true rfl) (by show 3 + 1 ≤ 10; omega) (by show 363 + 121 ≤ 1770; omega) dX7_init_31 (fun n_4 H hP hD hS => ?_)
  have hP : va_P D vwCl [(atb, .inr (6, [.ref n_1, .ref n_2, .ref n_3, .null, .null, .int (0 : Int32), .long (0 : Int64)])), (n_1, .inl (y 1, 121, .inl (fun _ => (0 : Int32)))), (n_2, .inl (y 1, 121, .inl (fun _ => (0 : Int32)))), (n_3, .inl (y 2, 121, .inr (.inl (fun _ => (0 : Int64))))), (n_4, .inl (y 3, 121, .inl (fun _ => (0 : Int32))))] H := hP
  have hD : va_D A [(atb, .inr (6, [.ref n_1, .ref n_2, .ref n_3, .null, .null, .int (0 : Int32), .long (0 : Int64)])), (n_1, .inl (y 1, 121, .inl (fun _ => (0 : Int32)))), (n_2, .inl (y 1, 121, .inl (fun _ => (0 : Int32)))), (n_3, .inl (y 2, 121, .inr (.inl (fun _ => (0 : Int64))))), (n_4, .inl (y 3, 121, .inl (fun _ => (0 : Int32))))] := hD
  refine W.widen (k := 4) (n := 484) (by omega) (by omega) ?_
  refine va_putF (D := D) (ci := 6) (v := .ref n_4) (ty := .array .boolean) (C := RX7) (T := TX7) (N := 7) hx hb hts iX7 tyX7 tyX7_ok nmX7 hown hK hP hD hS 0 rfl rfl 3 (by decide) (hts (.fieldLink RX7 22 "SampleTracker$Table" "inFamily" "[Z") (by decide +kernel)) (fun _ h9 => h9) rfl hin rfl (by decide +kernel) rfl rfl (Nat.le_of_ble_eq_true rfl) dX7_init_33 (fun H locs hP hD hS => ?_)
  have hP : va_P D vwCl [(atb, .inr (6, [.ref n_1, .ref n_2, .ref n_3, .ref n_4, .null, .int (0 : Int32), .long (0 : Int64)])), (n_1, .inl (y 1, 121, .inl (fun _ => (0 : Int32)))), (n_2, .inl (y 1, 121, .inl (fun _ => (0 : Int32)))), (n_3, .inl (y 2, 121, .inr (.inl (fun _ => (0 : Int64))))), (n_4, .inl (y 3, 121, .inl (fun _ => (0 : Int32))))] H := hP
  have hD : va_D A [(atb, .inr (6, [.ref n_1, .ref n_2, .ref n_3, .ref n_4, .null, .int (0 : Int32), .long (0 : Int64)])), (n_1, .inl (y 1, 121, .inl (fun _ => (0 : Int32)))), (n_2, .inl (y 1, 121, .inl (fun _ => (0 : Int32)))), (n_3, .inl (y 2, 121, .inr (.inl (fun _ => (0 : Int64))))), (n_4, .inl (y 3, 121, .inl (fun _ => (0 : Int32))))] := hD
  refine lv_aload_n hx hb dX7_init_36 rfl (lv_at hl 0 rfl) ?_
  refine va_new (ci := 3) (fs := [.null, .null, .null, .null, .null, .int 0]) (C := RX4) (T := TX4) (N := 6) hx hb hts iX4 tyX4 tyX4_ok hown (hts (.classLink RX7 26 RX4) (by decide +kernel)) (hts (.instantiable RX4 6) (by decide +kernel)) (hts (.initialized RX4) (by decide +kernel)) hK hP hD hS hA rfl (fun j hj => by rcases (show j = 0 ∨ j = 1 ∨ j = 2 ∨ j = 3 ∨ j = 4 ∨ j = 5 by omega) with rfl | rfl | rfl | rfl | rfl | rfl <;> rfl) (by show 4 + 1 ≤ 10; omega) (by show 484 + 6 ≤ 1770; omega) dX7_init_37 (fun n_5 H hP hD hS => ?_)
  have hP : va_P D vwCl [(atb, .inr (6, [.ref n_1, .ref n_2, .ref n_3, .ref n_4, .null, .int (0 : Int32), .long (0 : Int64)])), (n_1, .inl (y 1, 121, .inl (fun _ => (0 : Int32)))), (n_2, .inl (y 1, 121, .inl (fun _ => (0 : Int32)))), (n_3, .inl (y 2, 121, .inr (.inl (fun _ => (0 : Int64))))), (n_4, .inl (y 3, 121, .inl (fun _ => (0 : Int32)))), (n_5, .inr (3, [.null, .null, .null, .null, .null, .int (0 : Int32)]))] H := hP
  have hD : va_D A [(atb, .inr (6, [.ref n_1, .ref n_2, .ref n_3, .ref n_4, .null, .int (0 : Int32), .long (0 : Int64)])), (n_1, .inl (y 1, 121, .inl (fun _ => (0 : Int32)))), (n_2, .inl (y 1, 121, .inl (fun _ => (0 : Int32)))), (n_3, .inl (y 2, 121, .inr (.inl (fun _ => (0 : Int64))))), (n_4, .inl (y 3, 121, .inl (fun _ => (0 : Int32)))), (n_5, .inr (3, [.null, .null, .null, .null, .null, .int (0 : Int32)]))] := hD
  refine W.widen (k := 5) (n := 490) (by omega) (by omega) ?_
  refine lv_dup hx hb dX7_init_40 rfl ?_
  refine ct_IN (As := []) (rest := [.ref n_5, .ref atb]) (wr := [(atb, .inr (6, [.ref n_1, .ref n_2, .ref n_3, .ref n_4, .null, .int (0 : Int32), .long (0 : Int64)])), (n_1, .inl (y 1, 121, .inl (fun _ => (0 : Int32)))), (n_2, .inl (y 1, 121, .inl (fun _ => (0 : Int32)))), (n_3, .inl (y 2, 121, .inr (.inl (fun _ => (0 : Int64))))), (n_4, .inl (y 3, 121, .inl (fun _ => (0 : Int32))))]) hfix (cX4_init_ok l D y n_5) ⟨va_cnB 0 hts gX7_init_X4_init_n28 rfl rfl rfl (E.2.2.1.2 (.methodLinkNest RX7 28 yX4_init RX8) (by decide +kernel)) (hts (.initialized RX4) (by decide +kernel)) (by decide +kernel) ⟨Nat.le_of_ble_eq_true rfl, Nat.le_of_ble_eq_true rfl⟩, rfl, hts (.instanceMethod yX4_init) (by decide +kernel)⟩ E hP hD hS [5] [0, 1, 2, 3, 4] rfl rfl rfl rfl (by decide) rfl hl.1 rfl (Nat.le_of_ble_eq_true rfl) dX7_init_41 ⟨(by show 5 + 5 ≤ 10; omega), (by show 490 + 1280 ≤ 1770; omega)⟩ (fun u H locs hP hD hS => ?_)
  obtain ⟨n_6, n_7, n_8, n_9, n_10⟩ := u
  have hP : va_P D vwCl [(atb, .inr (6, [.ref n_1, .ref n_2, .ref n_3, .ref n_4, .null, .int (0 : Int32), .long (0 : Int64)])), (n_1, .inl (y 1, 121, .inl (fun _ => (0 : Int32)))), (n_2, .inl (y 1, 121, .inl (fun _ => (0 : Int32)))), (n_3, .inl (y 2, 121, .inr (.inl (fun _ => (0 : Int64))))), (n_4, .inl (y 3, 121, .inl (fun _ => (0 : Int32)))), (n_5, .inr (3, [.ref n_6, .ref n_7, .ref n_8, .ref n_9, .ref n_10, .int (0 : Int32)])), (n_6, .inl (y 1, 256, .inl (fun _ => (0 : Int32)))), (n_7, .inl (y 2, 256, .inr (.inl (fun _ => (0 : Int64))))), (n_8, .inl (y 1, 256, .inl (fun _ => (0 : Int32)))), (n_9, .inl (y 1, 256, .inl (fun _ => (0 : Int32)))), (n_10, .inl (y 2, 256, .inr (.inl (fun _ => (0 : Int64)))))] H := hP.sub [0, 1, 2, 3, 4, 5, 6, 7, 8, 9, 10] rfl
  have hD : va_D A [(atb, .inr (6, [.ref n_1, .ref n_2, .ref n_3, .ref n_4, .null, .int (0 : Int32), .long (0 : Int64)])), (n_1, .inl (y 1, 121, .inl (fun _ => (0 : Int32)))), (n_2, .inl (y 1, 121, .inl (fun _ => (0 : Int32)))), (n_3, .inl (y 2, 121, .inr (.inl (fun _ => (0 : Int64))))), (n_4, .inl (y 3, 121, .inl (fun _ => (0 : Int32)))), (n_5, .inr (3, [.ref n_6, .ref n_7, .ref n_8, .ref n_9, .ref n_10, .int (0 : Int32)])), (n_6, .inl (y 1, 256, .inl (fun _ => (0 : Int32)))), (n_7, .inl (y 2, 256, .inr (.inl (fun _ => (0 : Int64))))), (n_8, .inl (y 1, 256, .inl (fun _ => (0 : Int32)))), (n_9, .inl (y 1, 256, .inl (fun _ => (0 : Int32)))), (n_10, .inl (y 2, 256, .inr (.inl (fun _ => (0 : Int64)))))] := hD.sub [0, 1, 2, 3, 4, 5, 6, 7, 8, 9, 10] (by decide) rfl
  refine W.widen (k := 10) (n := 1770) (by omega) (by omega) ?_
  refine W.eq (g2 := F0 m 44 ls [.ref n_5, .ref atb]) rfl ?_
  refine va_putF (D := D) (ci := 6) (v := .ref n_5) (ty := .object "SampleTracker$Past") (C := RX7) (T := TX7) (N := 7) hx hb hts iX7 tyX7 tyX7_ok nmX7 hown hK hP hD hS 0 rfl rfl 4 (by decide) (hts (.fieldLink RX7 29 "SampleTracker$Table" "past" "LSampleTracker$Past;") (by decide +kernel)) (fun _ h9 => h9) rfl hin rfl (by decide +kernel) rfl rfl (Nat.le_of_ble_eq_true rfl) dX7_init_44 (fun H locs hP hD hS => ?_)
  have hP : va_P D vwCl [(atb, .inr (6, [.ref n_1, .ref n_2, .ref n_3, .ref n_4, .ref n_5, .int (0 : Int32), .long (0 : Int64)])), (n_1, .inl (y 1, 121, .inl (fun _ => (0 : Int32)))), (n_2, .inl (y 1, 121, .inl (fun _ => (0 : Int32)))), (n_3, .inl (y 2, 121, .inr (.inl (fun _ => (0 : Int64))))), (n_4, .inl (y 3, 121, .inl (fun _ => (0 : Int32)))), (n_5, .inr (3, [.ref n_6, .ref n_7, .ref n_8, .ref n_9, .ref n_10, .int (0 : Int32)])), (n_6, .inl (y 1, 256, .inl (fun _ => (0 : Int32)))), (n_7, .inl (y 2, 256, .inr (.inl (fun _ => (0 : Int64))))), (n_8, .inl (y 1, 256, .inl (fun _ => (0 : Int32)))), (n_9, .inl (y 1, 256, .inl (fun _ => (0 : Int32)))), (n_10, .inl (y 2, 256, .inr (.inl (fun _ => (0 : Int64)))))] H := hP
  have hD : va_D A [(atb, .inr (6, [.ref n_1, .ref n_2, .ref n_3, .ref n_4, .ref n_5, .int (0 : Int32), .long (0 : Int64)])), (n_1, .inl (y 1, 121, .inl (fun _ => (0 : Int32)))), (n_2, .inl (y 1, 121, .inl (fun _ => (0 : Int32)))), (n_3, .inl (y 2, 121, .inr (.inl (fun _ => (0 : Int64))))), (n_4, .inl (y 3, 121, .inl (fun _ => (0 : Int32)))), (n_5, .inr (3, [.ref n_6, .ref n_7, .ref n_8, .ref n_9, .ref n_10, .int (0 : Int32)])), (n_6, .inl (y 1, 256, .inl (fun _ => (0 : Int32)))), (n_7, .inl (y 2, 256, .inr (.inl (fun _ => (0 : Int64))))), (n_8, .inl (y 1, 256, .inl (fun _ => (0 : Int32)))), (n_9, .inl (y 1, 256, .inl (fun _ => (0 : Int32)))), (n_10, .inl (y 2, 256, .inr (.inl (fun _ => (0 : Int64)))))] := hD
  refine lv_aload_n hx hb dX7_init_47 rfl (lv_at hl 0 rfl) ?_
  refine lv_iconst (v := (0 : Int32)) hx hb dX7_init_48 (by decide) ?_
  refine va_put (D := D) (ci := 6) (v := .int (0 : Int32)) (ty := .int) (C := RX7) (T := TX7) (N := 7) hx hb hts iX7 tyX7 tyX7_ok nmX7 hown hK hP hD hS 0 rfl rfl 5 (by decide) (hts (.fieldLink RX7 33 "SampleTracker$Table" "samples" "I") (by decide +kernel)) (fun _ h9 => h9) rfl (by decide +kernel) rfl rfl (Nat.le_of_ble_eq_true rfl) dX7_init_49 (fun H locs hP hD hS => ?_)
  have hP : va_P D vwCl [(atb, .inr (6, [.ref n_1, .ref n_2, .ref n_3, .ref n_4, .ref n_5, .int (0 : Int32), .long (0 : Int64)])), (n_1, .inl (y 1, 121, .inl (fun _ => (0 : Int32)))), (n_2, .inl (y 1, 121, .inl (fun _ => (0 : Int32)))), (n_3, .inl (y 2, 121, .inr (.inl (fun _ => (0 : Int64))))), (n_4, .inl (y 3, 121, .inl (fun _ => (0 : Int32)))), (n_5, .inr (3, [.ref n_6, .ref n_7, .ref n_8, .ref n_9, .ref n_10, .int (0 : Int32)])), (n_6, .inl (y 1, 256, .inl (fun _ => (0 : Int32)))), (n_7, .inl (y 2, 256, .inr (.inl (fun _ => (0 : Int64))))), (n_8, .inl (y 1, 256, .inl (fun _ => (0 : Int32)))), (n_9, .inl (y 1, 256, .inl (fun _ => (0 : Int32)))), (n_10, .inl (y 2, 256, .inr (.inl (fun _ => (0 : Int64)))))] H := hP
  have hD : va_D A [(atb, .inr (6, [.ref n_1, .ref n_2, .ref n_3, .ref n_4, .ref n_5, .int (0 : Int32), .long (0 : Int64)])), (n_1, .inl (y 1, 121, .inl (fun _ => (0 : Int32)))), (n_2, .inl (y 1, 121, .inl (fun _ => (0 : Int32)))), (n_3, .inl (y 2, 121, .inr (.inl (fun _ => (0 : Int64))))), (n_4, .inl (y 3, 121, .inl (fun _ => (0 : Int32)))), (n_5, .inr (3, [.ref n_6, .ref n_7, .ref n_8, .ref n_9, .ref n_10, .int (0 : Int32)])), (n_6, .inl (y 1, 256, .inl (fun _ => (0 : Int32)))), (n_7, .inl (y 2, 256, .inr (.inl (fun _ => (0 : Int64))))), (n_8, .inl (y 1, 256, .inl (fun _ => (0 : Int32)))), (n_9, .inl (y 1, 256, .inl (fun _ => (0 : Int32)))), (n_10, .inl (y 2, 256, .inr (.inl (fun _ => (0 : Int64)))))] := hD
  refine lv_aload_n hx hb dX7_init_52 rfl (lv_at hl 0 rfl) ?_
  refine lv_lconst (v := (0 : Int64)) hx hb dX7_init_53 (by decide) ?_
  refine va_put (D := D) (ci := 6) (v := .long (0 : Int64)) (ty := .long) (C := RX7) (T := TX7) (N := 7) hx hb hts iX7 tyX7 tyX7_ok nmX7 hown hK hP hD hS 0 rfl rfl 6 (by decide) (hts (.fieldLink RX7 37 "SampleTracker$Table" "lost" "J") (by decide +kernel)) (fun _ h9 => h9) rfl (by decide +kernel) rfl rfl (Nat.le_of_ble_eq_true rfl) dX7_init_54 (fun H locs hP hD hS => ?_)
  have hP : va_P D vwCl [(atb, .inr (6, [.ref n_1, .ref n_2, .ref n_3, .ref n_4, .ref n_5, .int (0 : Int32), .long (0 : Int64)])), (n_1, .inl (y 1, 121, .inl (fun _ => (0 : Int32)))), (n_2, .inl (y 1, 121, .inl (fun _ => (0 : Int32)))), (n_3, .inl (y 2, 121, .inr (.inl (fun _ => (0 : Int64))))), (n_4, .inl (y 3, 121, .inl (fun _ => (0 : Int32)))), (n_5, .inr (3, [.ref n_6, .ref n_7, .ref n_8, .ref n_9, .ref n_10, .int (0 : Int32)])), (n_6, .inl (y 1, 256, .inl (fun _ => (0 : Int32)))), (n_7, .inl (y 2, 256, .inr (.inl (fun _ => (0 : Int64))))), (n_8, .inl (y 1, 256, .inl (fun _ => (0 : Int32)))), (n_9, .inl (y 1, 256, .inl (fun _ => (0 : Int32)))), (n_10, .inl (y 2, 256, .inr (.inl (fun _ => (0 : Int64)))))] H := hP
  have hD : va_D A [(atb, .inr (6, [.ref n_1, .ref n_2, .ref n_3, .ref n_4, .ref n_5, .int (0 : Int32), .long (0 : Int64)])), (n_1, .inl (y 1, 121, .inl (fun _ => (0 : Int32)))), (n_2, .inl (y 1, 121, .inl (fun _ => (0 : Int32)))), (n_3, .inl (y 2, 121, .inr (.inl (fun _ => (0 : Int64))))), (n_4, .inl (y 3, 121, .inl (fun _ => (0 : Int32)))), (n_5, .inr (3, [.ref n_6, .ref n_7, .ref n_8, .ref n_9, .ref n_10, .int (0 : Int32)])), (n_6, .inl (y 1, 256, .inl (fun _ => (0 : Int32)))), (n_7, .inl (y 2, 256, .inr (.inl (fun _ => (0 : Int64))))), (n_8, .inl (y 1, 256, .inl (fun _ => (0 : Int32)))), (n_9, .inl (y 1, 256, .inl (fun _ => (0 : Int32)))), (n_10, .inl (y 2, 256, .inr (.inl (fun _ => (0 : Int64)))))] := hD
  refine W.widen (k := 10) (n := 1770) (by omega) (by omega) ?_
  exact W.vret hx hb hr (fun t ht hW => ⟨⟨(n_1, n_2, n_3, n_4, n_5, n_6, n_7, n_8, n_9, n_10), rfl, by rw [ht]; exact hP, hD⟩, hS.F ht⟩) hS.2.2 dX7_init_57

set_option maxHeartbeats 4000000 in
set_option maxRecDepth 100000 in
theorem cX3_init_ok (l : Launch) (D : va_G) (y : Nat → ClassId) (aj : Nat) (aw : Nat) (nb : Nat) (p1 : Int32) (hv0 : szOk p1 nb) (res : Bool × Bool × Int32 × Int32 × Int32 × Int32 × Int32 × (Nat → Int32)) (hf : fX5_writeHead true false (0 : Int32) (0 : Int32) (0 : Int32) (0 : Int32) nb (fun _ => (0 : Int32)) (1 : Int32) = some res) : CA l D y yX3_init wsX3_init ({ frames := 4, cells := 7, slots := (15 + 2 * nb), locals := 89 } : Room) [.ref aj, .int p1, .ref aw] [(aj, .inr (2, [.null, .null, .null, .null, .int (0 : Int32), .int (0 : Int32)]))] (fun _ : Nat × Nat × Nat × Nat × Nat × Nat × Nat => none) (fun u : Nat × Nat × Nat × Nat × Nat × Nat × Nat => [(aj, .inr (2, [.ref aw, .ref u.1, .ref u.2.2.1, .ref u.2.2.2.2.1, .int (0 : Int32), .int (9 : Int32)])), (u.1, .inr (0, [.ref u.2.1])), (u.2.1, .inl (y 0, nb, .inl res.2.2.2.2.2.2.2)), (u.2.2.1, .inr (0, [.ref u.2.2.2.1])), (u.2.2.2.1, .inl (y 0, nb, .inl (fun _ => (0 : Int32)))), (u.2.2.2.2.1, .inr (4, [.ref aw, .ref u.1, .int (0 : Int32), .int (-1 : Int32)])), (u.2.2.2.2.2.1, .inr (4, [.ref u.2.2.2.2.2.2, .ref u.1, .int res.2.2.2.2.2.1, .int res.2.2.2.2.2.2.1])), (u.2.2.2.2.2.2, .inr (5, [.int (zb res.1), .int (zb res.2.1), .int res.2.2.1, .int res.2.2.2.1, .int res.2.2.2.2.1]))]) 7 (15 + 2 * nb) := by
  intro sz
  refine Met.ofW (cc := cX3_init) (maxL := 4) (ret := none) (by decide) rfl ?_
  intro p e s m args below meth c s₁ B hml hv
  obtain ⟨rfl, hsz, hP, hK, hD0, hst, hno⟩ := hv
  have hx := B.exec
  have hb := B.bytes
  have hr := B.returns
  have hts := atoms_spec (ws := wsX3_init) B.pre
  have hown : s.vm.findClass RX3 = some m.cls := findClass_of_methodNamed B.named
  have hlocks := B.notSynchronized
  have hin : meth.name = "<init>" := (name_of_methodNamed B.named B.method).1
  subst hsz
  have hD := hD0.self (sz := s.heap.size)
  generalize hAe : va_A [(aj, .inr (2, [.null, .null, .null, .null, .int (0 : Int32), .int (0 : Int32)]))] s.heap.size = A at hD hst ⊢
  have hA : ∀ q : Nat, s.heap.size ≤ q → A q := fun q h => by rw [← hAe]; exact Or.inr h
  have hS : va_S A s.heap s.heap [] := va_S.rf
  have E : Ev D y A s := ⟨hK, hst, hno, hA⟩
  have hfix : CallFix p m c cX3_init 4 s _ wsX3_init RX3 := ⟨hx, hb, hml, hown, hts⟩
  have hP : va_P D vwCl [(aj, .inr (2, [.null, .null, .null, .null, .int (0 : Int32), .int (0 : Int32)]))] s.heap := hP
  have iX0 : ∀ w ∈ wsX00, w ∈ wsX3_init := by decide +kernel
  have iX3 : ∀ w ∈ wsX30, w ∈ wsX3_init := by decide +kernel
  have iX5 : ∀ w ∈ wsX50, w ∈ wsX3_init := by decide +kernel
  have iX6 : ∀ w ∈ wsX60, w ∈ wsX3_init := by decide +kernel
  have hl := lv_entry ([.ref aj, .int p1, .ref aw]) (n := 4) (Nat.le_of_ble_eq_true rfl)
  rw [lg_entry_eq]
  generalize (lg_sl ([.ref aj, .int p1, .ref aw]) ++ List.replicate (4 - (lg_sl ([.ref aj, .int p1, .ref aw])).length) Slot.unset).toArray = ls at hl ⊢
  have hl : lv_has ls 4 [(0, .ref aj), (1, .int p1), (2, .ref aw)] := hl
  refine lv_aload_n hx hb dX3_init_0 rfl (lv_at hl 0 rfl) ?_
  refine W.objInit hx hb hown (hts (.methodLink RX3 3 objectInit) (by decide +kernel)) (hts (.instanceMethod objectInit) (by decide +kernel)) (hts (.code objectInit ⟨#[0xb1]⟩ 1 none) (by decide +kernel)) rfl (by rw [hml]; exact hl.1) rfl dX3_init_1 (Nat.le_of_ble_eq_true rfl) (Nat.le_of_ble_eq_true rfl) ?_
  refine W.eq (g2 := F0 m 4 ls []) rfl ?_
  refine lv_aload_n hx hb dX3_init_4 rfl (lv_at hl 0 rfl) ?_
  refine lv_iconst (v := (0 : Int32)) hx hb dX3_init_5 (by decide) ?_
  refine va_put (D := D) (ci := 2) (v := .int (0 : Int32)) (ty := .int) (C := RX3) (T := TX3) (N := 6) hx hb hts iX3 tyX3 tyX3_ok nmX3 hown hK hP hD hS 0 rfl rfl 4 (by decide) (hts (.fieldLink RX3 9 "SampleTracker$Journal" "inUse" "I") (by decide +kernel)) (fun _ h9 => h9) rfl (by decide +kernel) rfl rfl (Nat.le_of_ble_eq_true rfl) dX3_init_6 (fun H locs hP hD hS => ?_)
  have hP : va_P D vwCl [(aj, .inr (2, [.null, .null, .null, .null, .int (0 : Int32), .int (0 : Int32)]))] H := hP
  have hD : va_D A [(aj, .inr (2, [.null, .null, .null, .null, .int (0 : Int32), .int (0 : Int32)]))] := hD
  refine lv_aload_n hx hb dX3_init_9 rfl (lv_at hl 0 rfl) ?_
  refine lv_bipush (v := (9 : Int32)) hx hb dX3_init_10 (by decide) ?_
  refine va_put (D := D) (ci := 2) (v := .int (9 : Int32)) (ty := .int) (C := RX3) (T := TX3) (N := 6) hx hb hts iX3 tyX3 tyX3_ok nmX3 hown hK hP hD hS 0 rfl rfl 5 (by decide) (hts (.fieldLink RX3 15 "SampleTracker$Journal" "end" "I") (by decide +kernel)) (fun _ h9 => h9) rfl (by decide +kernel) rfl rfl (Nat.le_of_ble_eq_true rfl) dX3_init_12 (fun H locs hP hD hS => ?_)
  have hP : va_P D vwCl [(aj, .inr (2, [.null, .null, .null, .null, .int (0 : Int32), .int (9 : Int32)]))] H := hP
  have hD : va_D A [(aj, .inr (2, [.null, .null, .null, .null, .int (0 : Int32), .int (9 : Int32)]))] := hD
  refine lv_aload_n hx hb dX3_init_15 rfl (lv_at hl 0 rfl) ?_
  refine lv_aload_n hx hb dX3_init_16 rfl (lv_at hl 2 rfl) ?_
  refine va_putF (D := D) (ci := 2) (v := .ref aw) (ty := .object "SampleTracker$Power") (C := RX3) (T := TX3) (N := 6) hx hb hts iX3 tyX3 tyX3_ok nmX3 hown hK hP hD hS 0 rfl rfl 0 (by decide) (hts (.fieldLink RX3 18 "SampleTracker$Journal" "power" "LSampleTracker$Power;") (by decide +kernel)) (fun _ h9 => h9) rfl hin rfl (by decide +kernel) rfl rfl (Nat.le_of_ble_eq_true rfl) dX3_init_17 (fun H locs hP hD hS => ?_)
  have hP : va_P D vwCl [(aj, .inr (2, [.ref aw, .null, .null, .null, .int (0 : Int32), .int (9 : Int32)]))] H := hP
  have hD : va_D A [(aj, .inr (2, [.ref aw, .null, .null, .null, .int (0 : Int32), .int (9 : Int32)]))] := hD
  refine lv_aload_n hx hb dX3_init_20 rfl (lv_at hl 0 rfl) ?_
  refine va_new (ci := 0) (fs := [.null]) (C := RX0) (T := TX0) (N := 1) hx hb hts iX0 tyX0 tyX0_ok hown (hts (.classLink RX3 22 RX0) (by decide +kernel)) (hts (.instantiable RX0 1) (by decide +kernel)) (hts (.initialized RX0) (by decide +kernel)) hK hP hD hS hA rfl (fun j hj => by rcases (show j = 0 by omega) with rfl <;> rfl) (by show 0 + 1 ≤ 7; omega) (by show 0 + 1 ≤ (15 + 2 * nb); omega) dX3_init_21 (fun n_1 H hP hD hS => ?_)
  have hP : va_P D vwCl [(aj, .inr (2, [.ref aw, .null, .null, .null, .int (0 : Int32), .int (9 : Int32)])), (n_1, .inr (0, [.null]))] H := hP
  have hD : va_D A [(aj, .inr (2, [.ref aw, .null, .null, .null, .int (0 : Int32), .int (9 : Int32)])), (n_1, .inr (0, [.null]))] := hD
  refine W.widen (k := 1) (n := 1) (by omega) (by omega) ?_
  refine lv_dup hx hb dX3_init_24 rfl ?_
  refine lv_iload_n hx hb dX3_init_25 rfl (lv_at hl 1 rfl) ?_
  refine ct_I (As := [.int p1]) (rest := [.ref n_1, .ref aj]) (wr := [(aj, .inr (2, [.ref aw, .null, .null, .null, .int (0 : Int32), .int (9 : Int32)]))]) hfix (cX0_init_ok l D y n_1 nb p1 hv0) (cwI 1 hts gX3_init_X0_init rfl rfl rfl (hts (.initialized RX0) (by decide +kernel)) (hts (.methodLink RX3 24 yX0_init) (by decide +kernel)) (hts (.instanceMethod yX0_init) (by decide +kernel)) rfl (by decide +kernel) ⟨Nat.le_of_ble_eq_true rfl, Nat.le_of_ble_eq_true rfl⟩) E hP hD hS [1] [0] rfl rfl rfl rfl (by decide) rfl hl.1 rfl (Nat.le_of_ble_eq_true rfl) dX3_init_26 ⟨(by show 1 + 1 ≤ 7; omega), (by show 1 + (0 + nb) ≤ (15 + 2 * nb); omega)⟩ (fun u H locs hP hD hS => ?_)
  obtain ⟨n_2, rfl⟩ : ∃ z, z = u := ⟨_, rfl⟩
  have hP : va_P D vwCl [(aj, .inr (2, [.ref aw, .null, .null, .null, .int (0 : Int32), .int (9 : Int32)])), (n_1, .inr (0, [.ref n_2])), (n_2, .inl (y 0, nb, .inl (fun _ => (0 : Int32))))] H := hP.sub [0, 1, 2] rfl
  have hD : va_D A [(aj, .inr (2, [.ref aw, .null, .null, .null, .int (0 : Int32), .int (9 : Int32)])), (n_1, .inr (0, [.ref n_2])), (n_2, .inl (y 0, nb, .inl (fun _ => (0 : Int32))))] := hD.sub [0, 1, 2] (by decide) rfl
  refine W.widen (k := 2) (n := (1 + nb)) (by omega) (by omega) ?_
  refine W.eq (g2 := F0 m 29 ls [.ref n_1, .ref aj]) rfl ?_
  refine va_putF (D := D) (ci := 2) (v := .ref n_1) (ty := .object "SampleTracker$Bank") (C := RX3) (T := TX3) (N := 6) hx hb hts iX3 tyX3 tyX3_ok nmX3 hown hK hP hD hS 0 rfl rfl 1 (by decide) (hts (.fieldLink RX3 27 "SampleTracker$Journal" "first" "LSampleTracker$Bank;") (by decide +kernel)) (fun _ h9 => h9) rfl hin rfl (by decide +kernel) rfl rfl (Nat.le_of_ble_eq_true rfl) dX3_init_29 (fun H locs hP hD hS => ?_)
  have hP : va_P D vwCl [(aj, .inr (2, [.ref aw, .ref n_1, .null, .null, .int (0 : Int32), .int (9 : Int32)])), (n_1, .inr (0, [.ref n_2])), (n_2, .inl (y 0, nb, .inl (fun _ => (0 : Int32))))] H := hP
  have hD : va_D A [(aj, .inr (2, [.ref aw, .ref n_1, .null, .null, .int (0 : Int32), .int (9 : Int32)])), (n_1, .inr (0, [.ref n_2])), (n_2, .inl (y 0, nb, .inl (fun _ => (0 : Int32))))] := hD
  refine lv_aload_n hx hb dX3_init_32 rfl (lv_at hl 0 rfl) ?_
  refine va_new (ci := 0) (fs := [.null]) (C := RX0) (T := TX0) (N := 1) hx hb hts iX0 tyX0 tyX0_ok hown (hts (.classLink RX3 22 RX0) (by decide +kernel)) (hts (.instantiable RX0 1) (by decide +kernel)) (hts (.initialized RX0) (by decide +kernel)) hK hP hD hS hA rfl (fun j hj => by rcases (show j = 0 by omega) with rfl <;> rfl) (by show 2 + 1 ≤ 7; omega) (by show (1 + nb) + 1 ≤ (15 + 2 * nb); omega) dX3_init_33 (fun n_3 H hP hD hS => ?_)
  have hP : va_P D vwCl [(aj, .inr (2, [.ref aw, .ref n_1, .null, .null, .int (0 : Int32), .int (9 : Int32)])), (n_1, .inr (0, [.ref n_2])), (n_2, .inl (y 0, nb, .inl (fun _ => (0 : Int32)))), (n_3, .inr (0, [.null]))] H := hP
  have hD : va_D A [(aj, .inr (2, [.ref aw, .ref n_1, .null, .null, .int (0 : Int32), .int (9 : Int32)])), (n_1, .inr (0, [.ref n_2])), (n_2, .inl (y 0, nb, .inl (fun _ => (0 : Int32)))), (n_3, .inr (0, [.null]))] := hD
  refine W.widen (k := 3) (n := (2 + nb)) (by omega) (by omega) ?_
  refine lv_dup hx hb dX3_init_36 rfl ?_
  refine lv_iload_n hx hb dX3_init_37 rfl (lv_at hl 1 rfl) ?_
  refine ct_I (As := [.int p1]) (rest := [.ref n_3, .ref aj]) (wr := [(aj, .inr (2, [.ref aw, .ref n_1, .null, .null, .int (0 : Int32), .int (9 : Int32)])), (n_1, .inr (0, [.ref n_2])), (n_2, .inl (y 0, nb, .inl (fun _ => (0 : Int32))))]) hfix (cX0_init_ok l D y n_3 nb p1 hv0) (cwI 1 hts gX3_init_X0_init rfl rfl rfl (hts (.initialized RX0) (by decide +kernel)) (hts (.methodLink RX3 24 yX0_init) (by decide +kernel)) (hts (.instanceMethod yX0_init) (by decide +kernel)) rfl (by decide +kernel) ⟨Nat.le_of_ble_eq_true rfl, Nat.le_of_ble_eq_true rfl⟩) E hP hD hS [3] [0, 1, 2] rfl rfl rfl rfl (by decide) rfl hl.1 rfl (Nat.le_of_ble_eq_true rfl) dX3_init_38 ⟨(by show 3 + 1 ≤ 7; omega), (by show (2 + nb) + (0 + nb) ≤ (15 + 2 * nb); omega)⟩ (fun u H locs hP hD hS => ?_)
  obtain ⟨n_4, rfl⟩ : ∃ z, z = u := ⟨_, rfl⟩
  have hP : va_P D vwCl [(aj, .inr (2, [.ref aw, .ref n_1, .null, .null, .int (0 : Int32), .int (9 : Int32)])), (n_1, .inr (0, [.ref n_2])), (n_2, .inl (y 0, nb, .inl (fun _ => (0 : Int32)))), (n_3, .inr (0, [.ref n_4])), (n_4, .inl (y 0, nb, .inl (fun _ => (0 : Int32))))] H := hP.sub [0, 1, 2, 3, 4] rfl
  have hD : va_D A [(aj, .inr (2, [.ref aw, .ref n_1, .null, .null, .int (0 : Int32), .int (9 : Int32)])), (n_1, .inr (0, [.ref n_2])), (n_2, .inl (y 0, nb, .inl (fun _ => (0 : Int32)))), (n_3, .inr (0, [.ref n_4])), (n_4, .inl (y 0, nb, .inl (fun _ => (0 : Int32))))] := hD.sub [0, 1, 2, 3, 4] (by decide) rfl
  refine W.widen (k := 4) (n := (2 + 2 * nb)) (by omega) (by omega) ?_
  refine W.eq (g2 := F0 m 41 ls [.ref n_3, .ref aj]) rfl ?_
  refine va_putF (D := D) (ci := 2) (v := .ref n_3) (ty := .object "SampleTracker$Bank") (C := RX3) (T := TX3) (N := 6) hx hb hts iX3 tyX3 tyX3_ok nmX3 hown hK hP hD hS 0 rfl rfl 2 (by decide) (hts (.fieldLink RX3 31 "SampleTracker$Journal" "second" "LSampleTracker$Bank;") (by decide +kernel)) (fun _ h9 => h9) rfl hin rfl (by decide +kernel) rfl rfl (Nat.le_of_ble_eq_true rfl) dX3_init_41 (fun H locs hP hD hS => ?_)
  have hP : va_P D vwCl [(aj, .inr (2, [.ref aw, .ref n_1, .ref n_3, .null, .int (0 : Int32), .int (9 : Int32)])), (n_1, .inr (0, [.ref n_2])), (n_2, .inl (y 0, nb, .inl (fun _ => (0 : Int32)))), (n_3, .inr (0, [.ref n_4])), (n_4, .inl (y 0, nb, .inl (fun _ => (0 : Int32))))] H := hP
  have hD : va_D A [(aj, .inr (2, [.ref aw, .ref n_1, .ref n_3, .null, .int (0 : Int32), .int (9 : Int32)])), (n_1, .inr (0, [.ref n_2])), (n_2, .inl (y 0, nb, .inl (fun _ => (0 : Int32)))), (n_3, .inr (0, [.ref n_4])), (n_4, .inl (y 0, nb, .inl (fun _ => (0 : Int32))))] := hD
  refine lv_aload_n hx hb dX3_init_44 rfl (lv_at hl 0 rfl) ?_
  refine va_new (ci := 4) (fs := [.null, .null, .int 0, .int 0]) (C := RX5) (T := TX5) (N := 4) hx hb hts iX5 tyX5 tyX5_ok hown (hts (.classLink RX3 34 RX5) (by decide +kernel)) (hts (.instantiable RX5 4) (by decide +kernel)) (hts (.initialized RX5) (by decide +kernel)) hK hP hD hS hA rfl (fun j hj => by rcases (show j = 0 ∨ j = 1 ∨ j = 2 ∨ j = 3 by omega) with rfl | rfl | rfl | rfl <;> rfl) (by show 4 + 1 ≤ 7; omega) (by show (2 + 2 * nb) + 4 ≤ (15 + 2 * nb); omega) dX3_init_45 (fun n_5 H hP hD hS => ?_)
  have hP : va_P D vwCl [(aj, .inr (2, [.ref aw, .ref n_1, .ref n_3, .null, .int (0 : Int32), .int (9 : Int32)])), (n_1, .inr (0, [.ref n_2])), (n_2, .inl (y 0, nb, .inl (fun _ => (0 : Int32)))), (n_3, .inr (0, [.ref n_4])), (n_4, .inl (y 0, nb, .inl (fun _ => (0 : Int32)))), (n_5, .inr (4, [.null, .null, .int (0 : Int32), .int (0 : Int32)]))] H := hP
  have hD : va_D A [(aj, .inr (2, [.ref aw, .ref n_1, .ref n_3, .null, .int (0 : Int32), .int (9 : Int32)])), (n_1, .inr (0, [.ref n_2])), (n_2, .inl (y 0, nb, .inl (fun _ => (0 : Int32)))), (n_3, .inr (0, [.ref n_4])), (n_4, .inl (y 0, nb, .inl (fun _ => (0 : Int32)))), (n_5, .inr (4, [.null, .null, .int (0 : Int32), .int (0 : Int32)]))] := hD
  refine W.widen (k := 5) (n := (6 + 2 * nb)) (by omega) (by omega) ?_
  refine lv_dup hx hb dX3_init_48 rfl ?_
  refine lv_aload_n hx hb dX3_init_49 rfl (lv_at hl 2 rfl) ?_
  refine lv_aload_n hx hb dX3_init_50 rfl (lv_at hl 0 rfl) ?_
  refine va_get (D := D) (ci := 2) (v := .ref n_1) (C := RX3) (T := TX3) (N := 6) hx hb hts iX3 hown hK hP 0 rfl rfl 1 (by decide) (hts (.fieldLink RX3 27 "SampleTracker$Journal" "first" "LSampleTracker$Bank;") (by decide +kernel)) (fun _ h9 => h9) rfl dX3_init_51 ?_
  refine ct_I (As := [.ref aw, .ref n_1]) (rest := [.ref n_5, .ref aj]) (wr := [(aj, .inr (2, [.ref aw, .ref n_1, .ref n_3, .null, .int (0 : Int32), .int (9 : Int32)])), (n_1, .inr (0, [.ref n_2])), (n_2, .inl (y 0, nb, .inl (fun _ => (0 : Int32)))), (n_3, .inr (0, [.ref n_4])), (n_4, .inl (y 0, nb, .inl (fun _ => (0 : Int32))))]) hfix (cX5_init_ok l D y n_5 aw n_1) (cwI 2 hts gX3_init_X5_init rfl rfl rfl (hts (.initialized RX5) (by decide +kernel)) (hts (.methodLink RX3 36 yX5_init) (by decide +kernel)) (hts (.instanceMethod yX5_init) (by decide +kernel)) rfl (by decide +kernel) ⟨Nat.le_of_ble_eq_true rfl, Nat.le_of_ble_eq_true rfl⟩) E hP hD hS [5] [0, 1, 2, 3, 4] rfl rfl rfl rfl (by decide) rfl hl.1 rfl (Nat.le_of_ble_eq_true rfl) dX3_init_54 ⟨(by show 5 + 0 ≤ 7; omega), (by show (6 + 2 * nb) + 0 ≤ (15 + 2 * nb); omega)⟩ (fun u H locs hP hD hS => ?_)
  have hP : va_P D vwCl [(aj, .inr (2, [.ref aw, .ref n_1, .ref n_3, .null, .int (0 : Int32), .int (9 : Int32)])), (n_1, .inr (0, [.ref n_2])), (n_2, .inl (y 0, nb, .inl (fun _ => (0 : Int32)))), (n_3, .inr (0, [.ref n_4])), (n_4, .inl (y 0, nb, .inl (fun _ => (0 : Int32)))), (n_5, .inr (4, [.ref aw, .ref n_1, .int (0 : Int32), .int (-1 : Int32)]))] H := hP.sub [0, 1, 2, 3, 4, 5] rfl
  have hD : va_D A [(aj, .inr (2, [.ref aw, .ref n_1, .ref n_3, .null, .int (0 : Int32), .int (9 : Int32)])), (n_1, .inr (0, [.ref n_2])), (n_2, .inl (y 0, nb, .inl (fun _ => (0 : Int32)))), (n_3, .inr (0, [.ref n_4])), (n_4, .inl (y 0, nb, .inl (fun _ => (0 : Int32)))), (n_5, .inr (4, [.ref aw, .ref n_1, .int (0 : Int32), .int (-1 : Int32)]))] := hD.sub [0, 1, 2, 3, 4, 5] (by decide) rfl
  refine W.widen (k := 5) (n := (6 + 2 * nb)) (by omega) (by omega) ?_
  refine W.eq (g2 := F0 m 57 ls [.ref n_5, .ref aj]) rfl ?_
  refine va_putF (D := D) (ci := 2) (v := .ref n_5) (ty := .object "SampleTracker$Pen") (C := RX3) (T := TX3) (N := 6) hx hb hts iX3 tyX3 tyX3_ok nmX3 hown hK hP hD hS 0 rfl rfl 3 (by decide) (hts (.fieldLink RX3 39 "SampleTracker$Journal" "pen" "LSampleTracker$Pen;") (by decide +kernel)) (fun _ h9 => h9) rfl hin rfl (by decide +kernel) rfl rfl (Nat.le_of_ble_eq_true rfl) dX3_init_57 (fun H locs hP hD hS => ?_)
  have hP : va_P D vwCl [(aj, .inr (2, [.ref aw, .ref n_1, .ref n_3, .ref n_5, .int (0 : Int32), .int (9 : Int32)])), (n_1, .inr (0, [.ref n_2])), (n_2, .inl (y 0, nb, .inl (fun _ => (0 : Int32)))), (n_3, .inr (0, [.ref n_4])), (n_4, .inl (y 0, nb, .inl (fun _ => (0 : Int32)))), (n_5, .inr (4, [.ref aw, .ref n_1, .int (0 : Int32), .int (-1 : Int32)]))] H := hP
  have hD : va_D A [(aj, .inr (2, [.ref aw, .ref n_1, .ref n_3, .ref n_5, .int (0 : Int32), .int (9 : Int32)])), (n_1, .inr (0, [.ref n_2])), (n_2, .inl (y 0, nb, .inl (fun _ => (0 : Int32)))), (n_3, .inr (0, [.ref n_4])), (n_4, .inl (y 0, nb, .inl (fun _ => (0 : Int32)))), (n_5, .inr (4, [.ref aw, .ref n_1, .int (0 : Int32), .int (-1 : Int32)]))] := hD
  refine va_new (ci := 4) (fs := [.null, .null, .int 0, .int 0]) (C := RX5) (T := TX5) (N := 4) hx hb hts iX5 tyX5 tyX5_ok hown (hts (.classLink RX3 34 RX5) (by decide +kernel)) (hts (.instantiable RX5 4) (by decide +kernel)) (hts (.initialized RX5) (by decide +kernel)) hK hP hD hS hA rfl (fun j hj => by rcases (show j = 0 ∨ j = 1 ∨ j = 2 ∨ j = 3 by omega) with rfl | rfl | rfl | rfl <;> rfl) (by show 5 + 1 ≤ 7; omega) (by show (6 + 2 * nb) + 4 ≤ (15 + 2 * nb); omega) dX3_init_60 (fun n_6 H hP hD hS => ?_)
  have hP : va_P D vwCl [(aj, .inr (2, [.ref aw, .ref n_1, .ref n_3, .ref n_5, .int (0 : Int32), .int (9 : Int32)])), (n_1, .inr (0, [.ref n_2])), (n_2, .inl (y 0, nb, .inl (fun _ => (0 : Int32)))), (n_3, .inr (0, [.ref n_4])), (n_4, .inl (y 0, nb, .inl (fun _ => (0 : Int32)))), (n_5, .inr (4, [.ref aw, .ref n_1, .int (0 : Int32), .int (-1 : Int32)])), (n_6, .inr (4, [.null, .null, .int (0 : Int32), .int (0 : Int32)]))] H := hP
  have hD : va_D A [(aj, .inr (2, [.ref aw, .ref n_1, .ref n_3, .ref n_5, .int (0 : Int32), .int (9 : Int32)])), (n_1, .inr (0, [.ref n_2])), (n_2, .inl (y 0, nb, .inl (fun _ => (0 : Int32)))), (n_3, .inr (0, [.ref n_4])), (n_4, .inl (y 0, nb, .inl (fun _ => (0 : Int32)))), (n_5, .inr (4, [.ref aw, .ref n_1, .int (0 : Int32), .int (-1 : Int32)])), (n_6, .inr (4, [.null, .null, .int (0 : Int32), .int (0 : Int32)]))] := hD
  refine W.widen (k := 6) (n := (10 + 2 * nb)) (by omega) (by omega) ?_
  refine lv_dup hx hb dX3_init_63 rfl ?_
  refine va_new (ci := 5) (fs := [.int 0, .int 0, .int 0, .int 0, .int 0]) (C := RX6) (T := TX6) (N := 5) hx hb hts iX6 tyX6 tyX6_ok hown (hts (.classLink RX3 43 RX6) (by decide +kernel)) (hts (.instantiable RX6 5) (by decide +kernel)) (hts (.initialized RX6) (by decide +kernel)) hK hP hD hS hA rfl (fun j hj => by rcases (show j = 0 ∨ j = 1 ∨ j = 2 ∨ j = 3 ∨ j = 4 by omega) with rfl | rfl | rfl | rfl | rfl <;> rfl) (by show 6 + 1 ≤ 7; omega) (by show (10 + 2 * nb) + 5 ≤ (15 + 2 * nb); omega) dX3_init_64 (fun n_7 H hP hD hS => ?_)
  have hP : va_P D vwCl [(aj, .inr (2, [.ref aw, .ref n_1, .ref n_3, .ref n_5, .int (0 : Int32), .int (9 : Int32)])), (n_1, .inr (0, [.ref n_2])), (n_2, .inl (y 0, nb, .inl (fun _ => (0 : Int32)))), (n_3, .inr (0, [.ref n_4])), (n_4, .inl (y 0, nb, .inl (fun _ => (0 : Int32)))), (n_5, .inr (4, [.ref aw, .ref n_1, .int (0 : Int32), .int (-1 : Int32)])), (n_6, .inr (4, [.null, .null, .int (0 : Int32), .int (0 : Int32)])), (n_7, .inr (5, [.int (zb false), .int (zb false), .int (0 : Int32), .int (0 : Int32), .int (0 : Int32)]))] H := hP
  have hD : va_D A [(aj, .inr (2, [.ref aw, .ref n_1, .ref n_3, .ref n_5, .int (0 : Int32), .int (9 : Int32)])), (n_1, .inr (0, [.ref n_2])), (n_2, .inl (y 0, nb, .inl (fun _ => (0 : Int32)))), (n_3, .inr (0, [.ref n_4])), (n_4, .inl (y 0, nb, .inl (fun _ => (0 : Int32)))), (n_5, .inr (4, [.ref aw, .ref n_1, .int (0 : Int32), .int (-1 : Int32)])), (n_6, .inr (4, [.null, .null, .int (0 : Int32), .int (0 : Int32)])), (n_7, .inr (5, [.int (zb false), .int (zb false), .int (0 : Int32), .int (0 : Int32), .int (0 : Int32)]))] := hD
  refine W.widen (k := 7) (n := (15 + 2 * nb)) (by omega) (by omega) ?_
  refine lv_dup hx hb dX3_init_67 rfl ?_
  refine ct_IN (As := []) (rest := [.ref n_7, .ref n_6, .ref n_6]) (wr := [(aj, .inr (2, [.ref aw, .ref n_1, .ref n_3, .ref n_5, .int (0 : Int32), .int (9 : Int32)])), (n_1, .inr (0, [.ref n_2])), (n_2, .inl (y 0, nb, .inl (fun _ => (0 : Int32)))), (n_3, .inr (0, [.ref n_4])), (n_4, .inl (y 0, nb, .inl (fun _ => (0 : Int32)))), (n_5, .inr (4, [.ref aw, .ref n_1, .int (0 : Int32), .int (-1 : Int32)])), (n_6, .inr (4, [.null, .null, .int (0 : Int32), .int (0 : Int32)]))]) hfix (cX6_init_ok l D y n_7) ⟨va_cnB 0 hts gX3_init_X6_init_n45 rfl rfl rfl (E.2.2.1.2 (.methodLinkNest RX3 45 yX6_init RX8) (by decide +kernel)) (hts (.initialized RX6) (by decide +kernel)) (by decide +kernel) ⟨Nat.le_of_ble_eq_true rfl, Nat.le_of_ble_eq_true rfl⟩, rfl, hts (.instanceMethod yX6_init) (by decide +kernel)⟩ E hP hD hS [7] [0, 1, 2, 3, 4, 5, 6] rfl rfl rfl rfl (by decide) rfl hl.1 rfl (Nat.le_of_ble_eq_true rfl) dX3_init_68 ⟨(by show 7 + 0 ≤ 7; omega), (by show (15 + 2 * nb) + 0 ≤ (15 + 2 * nb); omega)⟩ (fun u H locs hP hD hS => ?_)
  have hP : va_P D vwCl [(aj, .inr (2, [.ref aw, .ref n_1, .ref n_3, .ref n_5, .int (0 : Int32), .int (9 : Int32)])), (n_1, .inr (0, [.ref n_2])), (n_2, .inl (y 0, nb, .inl (fun _ => (0 : Int32)))), (n_3, .inr (0, [.ref n_4])), (n_4, .inl (y 0, nb, .inl (fun _ => (0 : Int32)))), (n_5, .inr (4, [.ref aw, .ref n_1, .int (0 : Int32), .int (-1 : Int32)])), (n_6, .inr (4, [.null, .null, .int (0 : Int32), .int (0 : Int32)])), (n_7, .inr (5, [.int (zb true), .int (zb false), .int (0 : Int32), .int (0 : Int32), .int (0 : Int32)]))] H := hP.sub [0, 1, 2, 3, 4, 5, 6, 7] rfl
  have hD : va_D A [(aj, .inr (2, [.ref aw, .ref n_1, .ref n_3, .ref n_5, .int (0 : Int32), .int (9 : Int32)])), (n_1, .inr (0, [.ref n_2])), (n_2, .inl (y 0, nb, .inl (fun _ => (0 : Int32)))), (n_3, .inr (0, [.ref n_4])), (n_4, .inl (y 0, nb, .inl (fun _ => (0 : Int32)))), (n_5, .inr (4, [.ref aw, .ref n_1, .int (0 : Int32), .int (-1 : Int32)])), (n_6, .inr (4, [.null, .null, .int (0 : Int32), .int (0 : Int32)])), (n_7, .inr (5, [.int (zb true), .int (zb false), .int (0 : Int32), .int (0 : Int32), .int (0 : Int32)]))] := hD.sub [0, 1, 2, 3, 4, 5, 6, 7] (by decide) rfl
  refine W.widen (k := 7) (n := (15 + 2 * nb)) (by omega) (by omega) ?_
  refine W.eq (g2 := F0 m 71 ls [.ref n_7, .ref n_6, .ref n_6]) rfl ?_
  refine lv_aload_n hx hb dX3_init_71 rfl (lv_at hl 0 rfl) ?_
  refine va_get (D := D) (ci := 2) (v := .ref n_1) (C := RX3) (T := TX3) (N := 6) hx hb hts iX3 hown hK hP 0 rfl rfl 1 (by decide) (hts (.fieldLink RX3 27 "SampleTracker$Journal" "first" "LSampleTracker$Bank;") (by decide +kernel)) (fun _ h9 => h9) rfl dX3_init_72 ?_
  refine ct_I (As := [.ref n_7, .ref n_1]) (rest := [.ref n_6]) (wr := [(aj, .inr (2, [.ref aw, .ref n_1, .ref n_3, .ref n_5, .int (0 : Int32), .int (9 : Int32)])), (n_1, .inr (0, [.ref n_2])), (n_2, .inl (y 0, nb, .inl (fun _ => (0 : Int32)))), (n_3, .inr (0, [.ref n_4])), (n_4, .inl (y 0, nb, .inl (fun _ => (0 : Int32)))), (n_5, .inr (4, [.ref aw, .ref n_1, .int (0 : Int32), .int (-1 : Int32)])), (n_7, .inr (5, [.int (zb true), .int (zb false), .int (0 : Int32), .int (0 : Int32), .int (0 : Int32)]))]) hfix (cX5_init_ok l D y n_6 n_7 n_1) (cwI 2 hts gX3_init_X5_init rfl rfl rfl (hts (.initialized RX5) (by decide +kernel)) (hts (.methodLink RX3 36 yX5_init) (by decide +kernel)) (hts (.instanceMethod yX5_init) (by decide +kernel)) rfl (by decide +kernel) ⟨Nat.le_of_ble_eq_true rfl, Nat.le_of_ble_eq_true rfl⟩) E hP hD hS [6] [0, 1, 2, 3, 4, 5, 7] rfl rfl rfl rfl (by decide) rfl hl.1 rfl (Nat.le_of_ble_eq_true rfl) dX3_init_75 ⟨(by show 7 + 0 ≤ 7; omega), (by show (15 + 2 * nb) + 0 ≤ (15 + 2 * nb); omega)⟩ (fun u H locs hP hD hS => ?_)
  have hP : va_P D vwCl [(aj, .inr (2, [.ref aw, .ref n_1, .ref n_3, .ref n_5, .int (0 : Int32), .int (9 : Int32)])), (n_1, .inr (0, [.ref n_2])), (n_2, .inl (y 0, nb, .inl (fun _ => (0 : Int32)))), (n_3, .inr (0, [.ref n_4])), (n_4, .inl (y 0, nb, .inl (fun _ => (0 : Int32)))), (n_5, .inr (4, [.ref aw, .ref n_1, .int (0 : Int32), .int (-1 : Int32)])), (n_6, .inr (4, [.ref n_7, .ref n_1, .int (0 : Int32), .int (-1 : Int32)])), (n_7, .inr (5, [.int (zb true), .int (zb false), .int (0 : Int32), .int (0 : Int32), .int (0 : Int32)]))] H := hP.sub [0, 1, 2, 3, 4, 5, 7, 6] rfl
  have hD : va_D A [(aj, .inr (2, [.ref aw, .ref n_1, .ref n_3, .ref n_5, .int (0 : Int32), .int (9 : Int32)])), (n_1, .inr (0, [.ref n_2])), (n_2, .inl (y 0, nb, .inl (fun _ => (0 : Int32)))), (n_3, .inr (0, [.ref n_4])), (n_4, .inl (y 0, nb, .inl (fun _ => (0 : Int32)))), (n_5, .inr (4, [.ref aw, .ref n_1, .int (0 : Int32), .int (-1 : Int32)])), (n_6, .inr (4, [.ref n_7, .ref n_1, .int (0 : Int32), .int (-1 : Int32)])), (n_7, .inr (5, [.int (zb true), .int (zb false), .int (0 : Int32), .int (0 : Int32), .int (0 : Int32)]))] := hD.sub [0, 1, 2, 3, 4, 5, 7, 6] (by decide) rfl
  refine W.widen (k := 7) (n := (15 + 2 * nb)) (by omega) (by omega) ?_
  refine W.eq (g2 := F0 m 78 ls [.ref n_6]) rfl ?_
  refine lv_astore_n (lv' := [(3, .ref n_6), (0, .ref aj), (1, .int p1), (2, .ref aw)]) hx hb dX3_init_78 rfl hl (by decide) rfl (fun ls hl => ?_)
  refine lv_aload_n hx hb dX3_init_79 rfl (lv_at hl 0 rfl) ?_
  refine lv_iconst (v := (1 : Int32)) hx hb dX3_init_80 (by decide) ?_
  refine ct_V (As := [.int (1 : Int32)]) (rest := []) (wr := [(aj, .inr (2, [.ref aw, .ref n_1, .ref n_3, .ref n_5, .int (0 : Int32), .int (9 : Int32)])), (n_3, .inr (0, [.ref n_4])), (n_4, .inl (y 0, nb, .inl (fun _ => (0 : Int32)))), (n_5, .inr (4, [.ref aw, .ref n_1, .int (0 : Int32), .int (-1 : Int32)]))]) (wn := [(aj, .inr (2, [.ref aw, .ref n_1, .ref n_3, .ref n_5, .int (0 : Int32), .int (9 : Int32)])), (n_1, .inr (0, [.ref n_2])), (n_2, .inl (y 0, nb, .inl res.2.2.2.2.2.2.2)), (n_3, .inr (0, [.ref n_4])), (n_4, .inl (y 0, nb, .inl (fun _ => (0 : Int32)))), (n_5, .inr (4, [.ref aw, .ref n_1, .int (0 : Int32), .int (-1 : Int32)])), (n_6, .inr (4, [.ref n_7, .ref n_1, .int res.2.2.2.2.2.1, .int res.2.2.2.2.2.2.1])), (n_7, .inr (5, [.int (zb res.1), .int (zb res.2.1), .int res.2.2.1, .int res.2.2.2.1, .int res.2.2.2.2.1]))]) hfix (cX5_writeHead_ok l D y n_6 n_7 n_1 n_2 true false (0 : Int32) (0 : Int32) (0 : Int32) (0 : Int32) (-1 : Int32) nb (fun _ => (0 : Int32)) (1 : Int32) res hf) (cwV 1 hts gX3_init_X5_writeHead rfl rfl rfl (by decide +kernel) ⟨Nat.le_of_ble_eq_true rfl, Nat.le_of_ble_eq_true rfl⟩) E hP hD hS [6, 7, 1, 2] [0, 3, 4, 5] [0, 6, 7, 1, 2, 3, 4, 5] rfl rfl rfl rfl (by decide) rfl rfl 0 4 rfl rfl rfl hl.1 rfl (Nat.le_of_ble_eq_true rfl) dX3_init_81 ⟨(by show 7 ≤ 7; omega), (by show (15 + 2 * nb) ≤ (15 + 2 * nb); omega)⟩ (fun H locs hP hD hS => ?_)
  refine W.eq (g2 := F0 m 84 ls []) rfl ?_
  refine W.widen (k := 7) (n := (15 + 2 * nb)) (by omega) (by omega) ?_
  exact W.vret hx hb hr (fun t ht hW => ⟨⟨(n_1, n_2, n_3, n_4, n_5, n_6, n_7), rfl, by rw [ht]; exact hP, hD⟩, hS.F ht⟩) hS.2.2 dX3_init_84

set_option maxHeartbeats 4000000 in
set_option maxRecDepth 100000 in
theorem cX8_init_ok (l : Launch) (D : va_G) (y : Nat → ClassId) (ax : Nat) (nb : Nat) (p1 : Int32) (hv0 : szOk (if (64 : Int32) < (if p1 < (2048 : Int32) then p1 else (2048 : Int32)) then (if p1 < (2048 : Int32) then p1 else (2048 : Int32)) else (64 : Int32)) nb) (res : Bool × Bool × Int32 × Int32 × Int32 × Int32 × Int32 × (Nat → Int32)) (hf : fX5_writeHead true false (0 : Int32) (0 : Int32) (0 : Int32) (0 : Int32) nb (fun _ => (0 : Int32)) (1 : Int32) = some res) : CA l D y yX8_init wsX8_init ({ frames := 5, cells := 21, slots := (1807 + 2 * nb), locals := 112 } : Room) [.ref ax, .int p1] [(ax, .inr (7, [.null, .null, .null, .null]))] (fun _ : Nat × Nat × Nat × Nat × Nat × Nat × Nat × Nat × Nat × Nat × Nat × Nat × Nat × Nat × Nat × Nat × Nat × Nat × Nat × Nat × Nat => none) (fun u : Nat × Nat × Nat × Nat × Nat × Nat × Nat × Nat × Nat × Nat × Nat × Nat × Nat × Nat × Nat × Nat × Nat × Nat × Nat × Nat × Nat => [(ax, .inr (7, [.ref u.1, .ref u.2.1, .ref u.2.2.2.2.2.2.2.2.2.1, .ref u.2.2.2.2.2.2.2.2.2.2.2.2.2.2.2.2.2.2.2.2])), (u.1, .inr (5, [.int (zb true), .int (zb false), .int (0 : Int32), .int (0 : Int32), .int (0 : Int32)])), (u.2.1, .inr (2, [.ref u.1, .ref u.2.2.1, .ref u.2.2.2.2.1, .ref u.2.2.2.2.2.2.1, .int (0 : Int32), .int (9 : Int32)])), (u.2.2.1, .inr (0, [.ref u.2.2.2.1])), (u.2.2.2.1, .inl (y 0, nb, .inl res.2.2.2.2.2.2.2)), (u.2.2.2.2.1, .inr (0, [.ref u.2.2.2.2.2.1])), (u.2.2.2.2.2.1, .inl (y 0, nb, .inl (fun _ => (0 : Int32)))), (u.2.2.2.2.2.2.1, .inr (4, [.ref u.1, .ref u.2.2.1, .int (0 : Int32), .int (-1 : Int32)])), (u.2.2.2.2.2.2.2.1, .inr (4, [.ref u.2.2.2.2.2.2.2.2.1, .ref u.2.2.1, .int res.2.2.2.2.2.1, .int res.2.2.2.2.2.2.1])), (u.2.2.2.2.2.2.2.2.1, .inr (5, [.int (zb res.1), .int (zb res.2.1), .int res.2.2.1, .int res.2.2.2.1, .int res.2.2.2.2.1])), (u.2.2.2.2.2.2.2.2.2.1, .inr (6, [.ref u.2.2.2.2.2.2.2.2.2.2.1, .ref u.2.2.2.2.2.2.2.2.2.2.2.1, .ref u.2.2.2.2.2.2.2.2.2.2.2.2.1, .ref u.2.2.2.2.2.2.2.2.2.2.2.2.2.1, .ref u.2.2.2.2.2.2.2.2.2.2.2.2.2.2.1, .int (0 : Int32), .long (0 : Int64)])), (u.2.2.2.2.2.2.2.2.2.2.1, .inl (y 1, 121, .inl (fun _ => (0 : Int32)))), (u.2.2.2.2.2.2.2.2.2.2.2.1, .inl (y 1, 121, .inl (fun _ => (0 : Int32)))), (u.2.2.2.2.2.2.2.2.2.2.2.2.1, .inl (y 2, 121, .inr (.inl (fun _ => (0 : Int64))))), (u.2.2.2.2.2.2.2.2.2.2.2.2.2.1, .inl (y 3, 121, .inl (fun _ => (0 : Int32)))), (u.2.2.2.2.2.2.2.2.2.2.2.2.2.2.1, .inr (3, [.ref u.2.2.2.2.2.2.2.2.2.2.2.2.2.2.2.1, .ref u.2.2.2.2.2.2.2.2.2.2.2.2.2.2.2.2.1, .ref u.2.2.2.2.2.2.2.2.2.2.2.2.2.2.2.2.2.1, .ref u.2.2.2.2.2.2.2.2.2.2.2.2.2.2.2.2.2.2.1, .ref u.2.2.2.2.2.2.2.2.2.2.2.2.2.2.2.2.2.2.2.1, .int (0 : Int32)])), (u.2.2.2.2.2.2.2.2.2.2.2.2.2.2.2.1, .inl (y 1, 256, .inl (fun _ => (0 : Int32)))), (u.2.2.2.2.2.2.2.2.2.2.2.2.2.2.2.2.1, .inl (y 2, 256, .inr (.inl (fun _ => (0 : Int64))))), (u.2.2.2.2.2.2.2.2.2.2.2.2.2.2.2.2.2.1, .inl (y 1, 256, .inl (fun _ => (0 : Int32)))), (u.2.2.2.2.2.2.2.2.2.2.2.2.2.2.2.2.2.2.1, .inl (y 1, 256, .inl (fun _ => (0 : Int32)))), (u.2.2.2.2.2.2.2.2.2.2.2.2.2.2.2.2.2.2.2.1, .inl (y 2, 256, .inr (.inl (fun _ => (0 : Int64))))), (u.2.2.2.2.2.2.2.2.2.2.2.2.2.2.2.2.2.2.2.2, .inr (1, [.int (0 : Int32), .int (0 : Int32), .int (0 : Int32), .long (0 : Int64)]))]) 21 (1807 + 2 * nb) := by
  intro sz
  refine Met.ofW (cc := cX8_init) (maxL := 2) (ret := none) (by decide) rfl ?_
  intro p e s m args below meth c s₁ B hml hv
  obtain ⟨rfl, hsz, hP, hK, hD0, hst, hno⟩ := hv
  have hx := B.exec
  have hb := B.bytes
  have hr := B.returns
  have hts := atoms_spec (ws := wsX8_init) B.pre
  have hown : s.vm.findClass RX8 = some m.cls := findClass_of_methodNamed B.named
  have hlocks := B.notSynchronized
  have hin : meth.name = "<init>" := (name_of_methodNamed B.named B.method).1
  subst hsz
  have hD := hD0.self (sz := s.heap.size)
  generalize hAe : va_A [(ax, .inr (7, [.null, .null, .null, .null]))] s.heap.size = A at hD hst ⊢
  have hA : ∀ q : Nat, s.heap.size ≤ q → A q := fun q h => by rw [← hAe]; exact Or.inr h
  have hS : va_S A s.heap s.heap [] := va_S.rf
  have E : Ev D y A s := ⟨hK, hst, hno, hA⟩
  have hfix : CallFix p m c cX8_init 2 s _ wsX8_init RX8 := ⟨hx, hb, hml, hown, hts⟩
  have hP : va_P D vwCl [(ax, .inr (7, [.null, .null, .null, .null]))] s.heap := hP
  have iX2 : ∀ w ∈ wsX20, w ∈ wsX8_init := by decide +kernel
  have iX3 : ∀ w ∈ wsX30, w ∈ wsX8_init := by decide +kernel
  have iX6 : ∀ w ∈ wsX60, w ∈ wsX8_init := by decide +kernel
  have iX7 : ∀ w ∈ wsX70, w ∈ wsX8_init := by decide +kernel
  have iX8 : ∀ w ∈ wsX80, w ∈ wsX8_init := by decide +kernel
  have hl := lv_entry ([.ref ax, .int p1]) (n := 2) (Nat.le_of_ble_eq_true rfl)
  rw [lg_entry_eq]
  generalize (lg_sl ([.ref ax, .int p1]) ++ List.replicate (2 - (lg_sl ([.ref ax, .int p1])).length) Slot.unset).toArray = ls at hl ⊢
  have hl : lv_has ls 2 [(0, .ref ax), (1, .int p1)] := hl
  refine lv_aload_n hx hb dX8_init_0 rfl (lv_at hl 0 rfl) ?_
  refine W.objInit hx hb hown (hts (.methodLink RX8 3 objectInit) (by decide +kernel)) (hts (.instanceMethod objectInit) (by decide +kernel)) (hts (.code objectInit ⟨#[0xb1]⟩ 1 none) (by decide +kernel)) rfl (by rw [hml]; exact hl.1) rfl dX8_init_1 (Nat.le_of_ble_eq_true rfl) (Nat.le_of_ble_eq_true rfl) ?_
  refine W.eq (g2 := F0 m 4 ls []) rfl ?_
  refine lv_aload_n hx hb dX8_init_4 rfl (lv_at hl 0 rfl) ?_
  refine va_new (ci := 5) (fs := [.int 0, .int 0, .int 0, .int 0, .int 0]) (C := RX6) (T := TX6) (N := 5) hx hb hts iX6 tyX6 tyX6_ok hown (hts (.classLink RX8 9 RX6) (by decide +kernel)) (hts (.instantiable RX6 5) (by decide +kernel)) (hts (.initialized RX6) (by decide +kernel)) hK hP hD hS hA rfl (fun j hj => by rcases (show j = 0 ∨ j = 1 ∨ j = 2 ∨ j = 3 ∨ j = 4 by omega) with rfl | rfl | rfl | rfl | rfl <;> rfl) (by show 0 + 1 ≤ 21; omega) (by show 0 + 5 ≤ (1807 + 2 * nb); omega) dX8_init_5 (fun n_1 H hP hD hS => ?_)
  have hP : va_P D vwCl [(ax, .inr (7, [.null, .null, .null, .null])), (n_1, .inr (5, [.int (zb false), .int (zb false), .int (0 : Int32), .int (0 : Int32), .int (0 : Int32)]))] H := hP
  have hD : va_D A [(ax, .inr (7, [.null, .null, .null, .null])), (n_1, .inr (5, [.int (zb false), .int (zb false), .int (0 : Int32), .int (0 : Int32), .int (0 : Int32)]))] := hD
  refine W.widen (k := 1) (n := 5) (by omega) (by omega) ?_
  refine lv_dup hx hb dX8_init_8 rfl ?_
  refine ct_IN (As := []) (rest := [.ref n_1, .ref ax]) (wr := [(ax, .inr (7, [.null, .null, .null, .null]))]) hfix (cX6_init_ok l D y n_1) ⟨va_cnB 0 hts gX8_init_X6_init_n11 rfl rfl rfl (E.2.2.1.2 (.methodLinkNest RX8 11 yX6_init RX8) (by decide +kernel)) (hts (.initialized RX6) (by decide +kernel)) (by decide +kernel) ⟨Nat.le_of_ble_eq_true rfl, Nat.le_of_ble_eq_true rfl⟩, rfl, hts (.instanceMethod yX6_init) (by decide +kernel)⟩ E hP hD hS [1] [0] rfl rfl rfl rfl (by decide) rfl hl.1 rfl (Nat.le_of_ble_eq_true rfl) dX8_init_9 ⟨(by show 1 + 0 ≤ 21; omega), (by show 5 + 0 ≤ (1807 + 2 * nb); omega)⟩ (fun u H locs hP hD hS => ?_)
  have hP : va_P D vwCl [(ax, .inr (7, [.null, .null, .null, .null])), (n_1, .inr (5, [.int (zb true), .int (zb false), .int (0 : Int32), .int (0 : Int32), .int (0 : Int32)]))] H := hP.sub [0, 1] rfl
  have hD : va_D A [(ax, .inr (7, [.null, .null, .null, .null])), (n_1, .inr (5, [.int (zb true), .int (zb false), .int (0 : Int32), .int (0 : Int32), .int (0 : Int32)]))] := hD.sub [0, 1] (by decide) rfl
  refine W.widen (k := 1) (n := 5) (by omega) (by omega) ?_
  refine W.eq (g2 := F0 m 12 ls [.ref n_1, .ref ax]) rfl ?_
  refine va_putF (D := D) (ci := 7) (v := .ref n_1) (ty := .object "SampleTracker$Power") (C := RX8) (T := TX8) (N := 4) hx hb hts iX8 tyX8 tyX8_ok nmX8 hown hK hP hD hS 0 rfl rfl 0 (by decide) (hts (.fieldLink RX8 12 "SampleTracker" "power" "LSampleTracker$Power;") (by decide +kernel)) (fun _ h9 => h9) rfl hin rfl (by decide +kernel) rfl rfl (Nat.le_of_ble_eq_true rfl) dX8_init_12 (fun H locs hP hD hS => ?_)
  have hP : va_P D vwCl [(ax, .inr (7, [.ref n_1, .null, .null, .null])), (n_1, .inr (5, [.int (zb true), .int (zb false), .int (0 : Int32), .int (0 : Int32), .int (0 : Int32)]))] H := hP
  have hD : va_D A [(ax, .inr (7, [.ref n_1, .null, .null, .null])), (n_1, .inr (5, [.int (zb true), .int (zb false), .int (0 : Int32), .int (0 : Int32), .int (0 : Int32)]))] := hD
  refine lv_aload_n hx hb dX8_init_15 rfl (lv_at hl 0 rfl) ?_
  refine va_new (ci := 2) (fs := [.null, .null, .null, .null, .int 0, .int 0]) (C := RX3) (T := TX3) (N := 6) hx hb hts iX3 tyX3 tyX3_ok hown (hts (.classLink RX8 16 RX3) (by decide +kernel)) (hts (.instantiable RX3 6) (by decide +kernel)) (hts (.initialized RX3) (by decide +kernel)) hK hP hD hS hA rfl (fun j hj => by rcases (show j = 0 ∨ j = 1 ∨ j = 2 ∨ j = 3 ∨ j = 4 ∨ j = 5 by omega) with rfl | rfl | rfl | rfl | rfl | rfl <;> rfl) (by show 1 + 1 ≤ 21; omega) (by show 5 + 6 ≤ (1807 + 2 * nb); omega) dX8_init_16 (fun n_2 H hP hD hS => ?_)
  have hP : va_P D vwCl [(ax, .inr (7, [.ref n_1, .null, .null, .null])), (n_1, .inr (5, [.int (zb true), .int (zb false), .int (0 : Int32), .int (0 : Int32), .int (0 : Int32)])), (n_2, .inr (2, [.null, .null, .null, .null, .int (0 : Int32), .int (0 : Int32)]))] H := hP
  have hD : va_D A [(ax, .inr (7, [.ref n_1, .null, .null, .null])), (n_1, .inr (5, [.int (zb true), .int (zb false), .int (0 : Int32), .int (0 : Int32), .int (0 : Int32)])), (n_2, .inr (2, [.null, .null, .null, .null, .int (0 : Int32), .int (0 : Int32)]))] := hD
  refine W.widen (k := 2) (n := 11) (by omega) (by omega) ?_
  refine lv_dup hx hb dX8_init_19 rfl ?_
  refine lv_bipush (v := (64 : Int32)) hx hb dX8_init_20 (by decide) ?_
  refine lv_sipush (v := (2048 : Int32)) hx hb dX8_init_22 (by decide) ?_
  refine lv_iload_n hx hb dX8_init_25 rfl (lv_at hl 1 rfl) ?_
  refine va_mmin hx hb (by rw [hml]; exact hl.1.symm) hown (hts (.methodLink RX8 18 Lib.Math.min.name) (by decide +kernel)) (hts (.static Lib.Math.min.name) (by decide +kernel)) (hts (.initialized "java/lang/Math") (by decide +kernel)) (hts (.code Lib.Math.min.name Lib.Math.min.code 2 (some .int)) (by decide +kernel)) (Nat.le_of_ble_eq_true rfl) (Nat.le_of_ble_eq_true rfl) (by show 2 ≤ 21; omega) (by show 11 ≤ (1807 + 2 * nb); omega) dX8_init_26 ?_
  refine va_mmax hx hb (by rw [hml]; exact hl.1.symm) hown (hts (.methodLink RX8 24 Lib.Math.max.name) (by decide +kernel)) (hts (.static Lib.Math.max.name) (by decide +kernel)) (hts (.initialized "java/lang/Math") (by decide +kernel)) (hts (.code Lib.Math.max.name Lib.Math.max.code 2 (some .int)) (by decide +kernel)) (Nat.le_of_ble_eq_true rfl) (Nat.le_of_ble_eq_true rfl) (by show 2 ≤ 21; omega) (by show 11 ≤ (1807 + 2 * nb); omega) dX8_init_29 ?_
  refine lv_aload_n hx hb dX8_init_32 rfl (lv_at hl 0 rfl) ?_
  refine va_get (D := D) (ci := 7) (v := .ref n_1) (C := RX8) (T := TX8) (N := 4) hx hb hts iX8 hown hK hP 0 rfl rfl 0 (by decide) (hts (.fieldLink RX8 12 "SampleTracker" "power" "LSampleTracker$Power;") (by decide +kernel)) (fun _ h9 => h9) rfl dX8_init_33 ?_
  refine ct_I (As := [.int (if (64 : Int32) < (if p1 < (2048 : Int32) then p1 else (2048 : Int32)) then (if p1 < (2048 : Int32) then p1 else (2048 : Int32)) else (64 : Int32)), .ref n_1]) (rest := [.ref n_2, .ref ax]) (wr := [(ax, .inr (7, [.ref n_1, .null, .null, .null])), (n_1, .inr (5, [.int (zb true), .int (zb false), .int (0 : Int32), .int (0 : Int32), .int (0 : Int32)]))]) hfix (cX3_init_ok l D y n_2 n_1 nb (if (64 : Int32) < (if p1 < (2048 : Int32) then p1 else (2048 : Int32)) then (if p1 < (2048 : Int32) then p1 else (2048 : Int32)) else (64 : Int32)) hv0 _ hf) (cwI 2 hts gX8_init_X3_init rfl rfl rfl (hts (.initialized RX3) (by decide +kernel)) (hts (.methodLink RX8 27 yX3_init) (by decide +kernel)) (hts (.instanceMethod yX3_init) (by decide +kernel)) rfl (by decide +kernel) ⟨Nat.le_of_ble_eq_true rfl, Nat.le_of_ble_eq_true rfl⟩) E hP hD hS [2] [0, 1] rfl rfl rfl rfl (by decide) rfl hl.1 rfl (Nat.le_of_ble_eq_true rfl) dX8_init_36 ⟨(by show 2 + 7 ≤ 21; omega), (by show 11 + (15 + 2 * nb) ≤ (1807 + 2 * nb); omega)⟩ (fun u H locs hP hD hS => ?_)
  obtain ⟨n_3, n_4, n_5, n_6, n_7, n_8, n_9⟩ := u
  have hP : va_P D vwCl [(ax, .inr (7, [.ref n_1, .null, .null, .null])), (n_1, .inr (5, [.int (zb true), .int (zb false), .int (0 : Int32), .int (0 : Int32), .int (0 : Int32)])), (n_2, .inr (2, [.ref n_1, .ref n_3, .ref n_5, .ref n_7, .int (0 : Int32), .int (9 : Int32)])), (n_3, .inr (0, [.ref n_4])), (n_4, .inl (y 0, nb, .inl res.2.2.2.2.2.2.2)), (n_5, .inr (0, [.ref n_6])), (n_6, .inl (y 0, nb, .inl (fun _ => (0 : Int32)))), (n_7, .inr (4, [.ref n_1, .ref n_3, .int (0 : Int32), .int (-1 : Int32)])), (n_8, .inr (4, [.ref n_9, .ref n_3, .int res.2.2.2.2.2.1, .int res.2.2.2.2.2.2.1])), (n_9, .inr (5, [.int (zb res.1), .int (zb res.2.1), .int res.2.2.1, .int res.2.2.2.1, .int res.2.2.2.2.1]))] H := hP.sub [0, 1, 2, 3, 4, 5, 6, 7, 8, 9] rfl
  have hD : va_D A [(ax, .inr (7, [.ref n_1, .null, .null, .null])), (n_1, .inr (5, [.int (zb true), .int (zb false), .int (0 : Int32), .int (0 : Int32), .int (0 : Int32)])), (n_2, .inr (2, [.ref n_1, .ref n_3, .ref n_5, .ref n_7, .int (0 : Int32), .int (9 : Int32)])), (n_3, .inr (0, [.ref n_4])), (n_4, .inl (y 0, nb, .inl res.2.2.2.2.2.2.2)), (n_5, .inr (0, [.ref n_6])), (n_6, .inl (y 0, nb, .inl (fun _ => (0 : Int32)))), (n_7, .inr (4, [.ref n_1, .ref n_3, .int (0 : Int32), .int (-1 : Int32)])), (n_8, .inr (4, [.ref n_9, .ref n_3, .int res.2.2.2.2.2.1, .int res.2.2.2.2.2.2.1])), (n_9, .inr (5, [.int (zb res.1), .int (zb res.2.1), .int res.2.2.1, .int res.2.2.2.1, .int res.2.2.2.2.1]))] := hD.sub [0, 1, 2, 3, 4, 5, 6, 7, 8, 9] (by decide) rfl
  refine W.widen (k := 9) (n := (26 + 2 * nb)) (by omega) (by omega) ?_
  refine W.eq (g2 := F0 m 39 ls [.ref n_2, .ref ax]) rfl ?_
  refine va_putF (D := D) (ci := 7) (v := .ref n_2) (ty := .object "SampleTracker$Journal") (C := RX8) (T := TX8) (N := 4) hx hb hts iX8 tyX8 tyX8_ok nmX8 hown hK hP hD hS 0 rfl rfl 1 (by decide) (hts (.fieldLink RX8 30 "SampleTracker" "journal" "LSampleTracker$Journal;") (by decide +kernel)) (fun _ h9 => h9) rfl hin rfl (by decide +kernel) rfl rfl (Nat.le_of_ble_eq_true rfl) dX8_init_39 (fun H locs hP hD hS => ?_)
  have hP : va_P D vwCl [(ax, .inr (7, [.ref n_1, .ref n_2, .null, .null])), (n_1, .inr (5, [.int (zb true), .int (zb false), .int (0 : Int32), .int (0 : Int32), .int (0 : Int32)])), (n_2, .inr (2, [.ref n_1, .ref n_3, .ref n_5, .ref n_7, .int (0 : Int32), .int (9 : Int32)])), (n_3, .inr (0, [.ref n_4])), (n_4, .inl (y 0, nb, .inl res.2.2.2.2.2.2.2)), (n_5, .inr (0, [.ref n_6])), (n_6, .inl (y 0, nb, .inl (fun _ => (0 : Int32)))), (n_7, .inr (4, [.ref n_1, .ref n_3, .int (0 : Int32), .int (-1 : Int32)])), (n_8, .inr (4, [.ref n_9, .ref n_3, .int res.2.2.2.2.2.1, .int res.2.2.2.2.2.2.1])), (n_9, .inr (5, [.int (zb res.1), .int (zb res.2.1), .int res.2.2.1, .int res.2.2.2.1, .int res.2.2.2.2.1]))] H := hP
  have hD : va_D A [(ax, .inr (7, [.ref n_1, .ref n_2, .null, .null])), (n_1, .inr (5, [.int (zb true), .int (zb false), .int (0 : Int32), .int (0 : Int32), .int (0 : Int32)])), (n_2, .inr (2, [.ref n_1, .ref n_3, .ref n_5, .ref n_7, .int (0 : Int32), .int (9 : Int32)])), (n_3, .inr (0, [.ref n_4])), (n_4, .inl (y 0, nb, .inl res.2.2.2.2.2.2.2)), (n_5, .inr (0, [.ref n_6])), (n_6, .inl (y 0, nb, .inl (fun _ => (0 : Int32)))), (n_7, .inr (4, [.ref n_1, .ref n_3, .int (0 : Int32), .int (-1 : Int32)])), (n_8, .inr (4, [.ref n_9, .ref n_3, .int res.2.2.2.2.2.1, .int res.2.2.2.2.2.2.1])), (n_9, .inr (5, [.int (zb res.1), .int (zb res.2.1), .int res.2.2.1, .int res.2.2.2.1, .int res.2.2.2.2.1]))] := hD
  refine lv_aload_n hx hb dX8_init_42 rfl (lv_at hl 0 rfl) ?_
  refine va_new (ci := 6) (fs := [.null, .null, .null, .null, .null, .int 0, .long 0]) (C := RX7) (T := TX7) (N := 7) hx hb hts iX7 tyX7 tyX7_ok hown (hts (.classLink RX8 34 RX7) (by decide +kernel)) (hts (.instantiable RX7 7) (by decide +kernel)) (hts (.initialized RX7) (by decide +kernel)) hK hP hD hS hA rfl (fun j hj => by rcases (show j = 0 ∨ j = 1 ∨ j = 2 ∨ j = 3 ∨ j = 4 ∨ j = 5 ∨ j = 6 by omega) with rfl | rfl | rfl | rfl | rfl | rfl | rfl <;> rfl) (by show 9 + 1 ≤ 21; omega) (by show (26 + 2 * nb) + 7 ≤ (1807 + 2 * nb); omega) dX8_init_43 (fun n_10 H hP hD hS => ?_)
  have hP : va_P D vwCl [(ax, .inr (7, [.ref n_1, .ref n_2, .null, .null])), (n_1, .inr (5, [.int (zb true), .int (zb false), .int (0 : Int32), .int (0 : Int32), .int (0 : Int32)])), (n_2, .inr (2, [.ref n_1, .ref n_3, .ref n_5, .ref n_7, .int (0 : Int32), .int (9 : Int32)])), (n_3, .inr (0, [.ref n_4])), (n_4, .inl (y 0, nb, .inl res.2.2.2.2.2.2.2)), (n_5, .inr (0, [.ref n_6])), (n_6, .inl (y 0, nb, .inl (fun _ => (0 : Int32)))), (n_7, .inr (4, [.ref n_1, .ref n_3, .int (0 : Int32), .int (-1 : Int32)])), (n_8, .inr (4, [.ref n_9, .ref n_3, .int res.2.2.2.2.2.1, .int res.2.2.2.2.2.2.1])), (n_9, .inr (5, [.int (zb res.1), .int (zb res.2.1), .int res.2.2.1, .int res.2.2.2.1, .int res.2.2.2.2.1])), (n_10, .inr (6, [.null, .null, .null, .null, .null, .int (0 : Int32), .long (0 : Int64)]))] H := hP
  have hD : va_D A [(ax, .inr (7, [.ref n_1, .ref n_2, .null, .null])), (n_1, .inr (5, [.int (zb true), .int (zb false), .int (0 : Int32), .int (0 : Int32), .int (0 : Int32)])), (n_2, .inr (2, [.ref n_1, .ref n_3, .ref n_5, .ref n_7, .int (0 : Int32), .int (9 : Int32)])), (n_3, .inr (0, [.ref n_4])), (n_4, .inl (y 0, nb, .inl res.2.2.2.2.2.2.2)), (n_5, .inr (0, [.ref n_6])), (n_6, .inl (y 0, nb, .inl (fun _ => (0 : Int32)))), (n_7, .inr (4, [.ref n_1, .ref n_3, .int (0 : Int32), .int (-1 : Int32)])), (n_8, .inr (4, [.ref n_9, .ref n_3, .int res.2.2.2.2.2.1, .int res.2.2.2.2.2.2.1])), (n_9, .inr (5, [.int (zb res.1), .int (zb res.2.1), .int res.2.2.1, .int res.2.2.2.1, .int res.2.2.2.2.1])), (n_10, .inr (6, [.null, .null, .null, .null, .null, .int (0 : Int32), .long (0 : Int64)]))] := hD
  refine W.widen (k := 10) (n := (33 + 2 * nb)) (by omega) (by omega) ?_
  refine lv_dup hx hb dX8_init_46 rfl ?_
  refine ct_IN (As := []) (rest := [.ref n_10, .ref ax]) (wr := [(ax, .inr (7, [.ref n_1, .ref n_2, .null, .null])), (n_1, .inr (5, [.int (zb true), .int (zb false), .int (0 : Int32), .int (0 : Int32), .int (0 : Int32)])), (n_2, .inr (2, [.ref n_1, .ref n_3, .ref n_5, .ref n_7, .int (0 : Int32), .int (9 : Int32)])), (n_3, .inr (0, [.ref n_4])), (n_4, .inl (y 0, nb, .inl res.2.2.2.2.2.2.2)), (n_5, .inr (0, [.ref n_6])), (n_6, .inl (y 0, nb, .inl (fun _ => (0 : Int32)))), (n_7, .inr (4, [.ref n_1, .ref n_3, .int (0 : Int32), .int (-1 : Int32)])), (n_8, .inr (4, [.ref n_9, .ref n_3, .int res.2.2.2.2.2.1, .int res.2.2.2.2.2.2.1])), (n_9, .inr (5, [.int (zb res.1), .int (zb res.2.1), .int res.2.2.1, .int res.2.2.2.1, .int res.2.2.2.2.1]))]) hfix (cX7_init_ok l D y n_10) ⟨va_cnB 0 hts gX8_init_X7_init_n36 rfl rfl rfl (E.2.2.1.2 (.methodLinkNest RX8 36 yX7_init RX8) (by decide +kernel)) (hts (.initialized RX7) (by decide +kernel)) (by decide +kernel) ⟨Nat.le_of_ble_eq_true rfl, Nat.le_of_ble_eq_true rfl⟩, rfl, hts (.instanceMethod yX7_init) (by decide +kernel)⟩ E hP hD hS [10] [0, 1, 2, 3, 4, 5, 6, 7, 8, 9] rfl rfl rfl rfl (by decide) rfl hl.1 rfl (Nat.le_of_ble_eq_true rfl) dX8_init_47 ⟨(by show 10 + 10 ≤ 21; omega), (by show (33 + 2 * nb) + 1770 ≤ (1807 + 2 * nb); omega)⟩ (fun u H locs hP hD hS => ?_)
  obtain ⟨n_11, n_12, n_13, n_14, n_15, n_16, n_17, n_18, n_19, n_20⟩ := u
  have hP : va_P D vwCl [(ax, .inr (7, [.ref n_1, .ref n_2, .null, .null])), (n_1, .inr (5, [.int (zb true), .int (zb false), .int (0 : Int32), .int (0 : Int32), .int (0 : Int32)])), (n_2, .inr (2, [.ref n_1, .ref n_3, .ref n_5, .ref n_7, .int (0 : Int32), .int (9 : Int32)])), (n_3, .inr (0, [.ref n_4])), (n_4, .inl (y 0, nb, .inl res.2.2.2.2.2.2.2)), (n_5, .inr (0, [.ref n_6])), (n_6, .inl (y 0, nb, .inl (fun _ => (0 : Int32)))), (n_7, .inr (4, [.ref n_1, .ref n_3, .int (0 : Int32), .int (-1 : Int32)])), (n_8, .inr (4, [.ref n_9, .ref n_3, .int res.2.2.2.2.2.1, .int res.2.2.2.2.2.2.1])), (n_9, .inr (5, [.int (zb res.1), .int (zb res.2.1), .int res.2.2.1, .int res.2.2.2.1, .int res.2.2.2.2.1])), (n_10, .inr (6, [.ref n_11, .ref n_12, .ref n_13, .ref n_14, .ref n_15, .int (0 : Int32), .long (0 : Int64)])), (n_11, .inl (y 1, 121, .inl (fun _ => (0 : Int32)))), (n_12, .inl (y 1, 121, .inl (fun _ => (0 : Int32)))), (n_13, .inl (y 2, 121, .inr (.inl (fun _ => (0 : Int64))))), (n_14, .inl (y 3, 121, .inl (fun _ => (0 : Int32)))), (n_15, .inr (3, [.ref n_16, .ref n_17, .ref n_18, .ref n_19, .ref n_20, .int (0 : Int32)])), (n_16, .inl (y 1, 256, .inl (fun _ => (0 : Int32)))), (n_17, .inl (y 2, 256, .inr (.inl (fun _ => (0 : Int64))))), (n_18, .inl (y 1, 256, .inl (fun _ => (0 : Int32)))), (n_19, .inl (y 1, 256, .inl (fun _ => (0 : Int32)))), (n_20, .inl (y 2, 256, .inr (.inl (fun _ => (0 : Int64)))))] H := hP.sub [0, 1, 2, 3, 4, 5, 6, 7, 8, 9, 10, 11, 12, 13, 14, 15, 16, 17, 18, 19, 20] rfl
  have hD : va_D A [(ax, .inr (7, [.ref n_1, .ref n_2, .null, .null])), (n_1, .inr (5, [.int (zb true), .int (zb false), .int (0 : Int32), .int (0 : Int32), .int (0 : Int32)])), (n_2, .inr (2, [.ref n_1, .ref n_3, .ref n_5, .ref n_7, .int (0 : Int32), .int (9 : Int32)])), (n_3, .inr (0, [.ref n_4])), (n_4, .inl (y 0, nb, .inl res.2.2.2.2.2.2.2)), (n_5, .inr (0, [.ref n_6])), (n_6, .inl (y 0, nb, .inl (fun _ => (0 : Int32)))), (n_7, .inr (4, [.ref n_1, .ref n_3, .int (0 : Int32), .int (-1 : Int32)])), (n_8, .inr (4, [.ref n_9, .ref n_3, .int res.2.2.2.2.2.1, .int res.2.2.2.2.2.2.1])), (n_9, .inr (5, [.int (zb res.1), .int (zb res.2.1), .int res.2.2.1, .int res.2.2.2.1, .int res.2.2.2.2.1])), (n_10, .inr (6, [.ref n_11, .ref n_12, .ref n_13, .ref n_14, .ref n_15, .int (0 : Int32), .long (0 : Int64)])), (n_11, .inl (y 1, 121, .inl (fun _ => (0 : Int32)))), (n_12, .inl (y 1, 121, .inl (fun _ => (0 : Int32)))), (n_13, .inl (y 2, 121, .inr (.inl (fun _ => (0 : Int64))))), (n_14, .inl (y 3, 121, .inl (fun _ => (0 : Int32)))), (n_15, .inr (3, [.ref n_16, .ref n_17, .ref n_18, .ref n_19, .ref n_20, .int (0 : Int32)])), (n_16, .inl (y 1, 256, .inl (fun _ => (0 : Int32)))), (n_17, .inl (y 2, 256, .inr (.inl (fun _ => (0 : Int64))))), (n_18, .inl (y 1, 256, .inl (fun _ => (0 : Int32)))), (n_19, .inl (y 1, 256, .inl (fun _ => (0 : Int32)))), (n_20, .inl (y 2, 256, .inr (.inl (fun _ => (0 : Int64)))))] := hD.sub [0, 1, 2, 3, 4, 5, 6, 7, 8, 9, 10, 11, 12, 13, 14, 15, 16, 17, 18, 19, 20] (by decide) rfl
  refine W.widen (k := 20) (n := (1803 + 2 * nb)) (by omega) (by omega) ?_
  refine W.eq (g2 := F0 m 50 ls [.ref n_10, .ref ax]) rfl ?_
  refine va_putF (D := D) (ci := 7) (v := .ref n_10) (ty := .object "SampleTracker$Table") (C := RX8) (T := TX8) (N := 4) hx hb hts iX8 tyX8 tyX8_ok nmX8 hown hK hP hD hS 0 rfl rfl 2 (by decide) (hts (.fieldLink RX8 37 "SampleTracker" "table" "LSampleTracker$Table;") (by decide +kernel)) (fun _ h9 => h9) rfl hin rfl (by decide +kernel) rfl rfl (Nat.le_of_ble_eq_true rfl) dX8_init_50 (fun H locs hP hD hS => ?_)
  have hP : va_P D vwCl [(ax, .inr (7, [.ref n_1, .ref n_2, .ref n_10, .null])), (n_1, .inr (5, [.int (zb true), .int (zb false), .int (0 : Int32), .int (0 : Int32), .int (0 : Int32)])), (n_2, .inr (2, [.ref n_1, .ref n_3, .ref n_5, .ref n_7, .int (0 : Int32), .int (9 : Int32)])), (n_3, .inr (0, [.ref n_4])), (n_4, .inl (y 0, nb, .inl res.2.2.2.2.2.2.2)), (n_5, .inr (0, [.ref n_6])), (n_6, .inl (y 0, nb, .inl (fun _ => (0 : Int32)))), (n_7, .inr (4, [.ref n_1, .ref n_3, .int (0 : Int32), .int (-1 : Int32)])), (n_8, .inr (4, [.ref n_9, .ref n_3, .int res.2.2.2.2.2.1, .int res.2.2.2.2.2.2.1])), (n_9, .inr (5, [.int (zb res.1), .int (zb res.2.1), .int res.2.2.1, .int res.2.2.2.1, .int res.2.2.2.2.1])), (n_10, .inr (6, [.ref n_11, .ref n_12, .ref n_13, .ref n_14, .ref n_15, .int (0 : Int32), .long (0 : Int64)])), (n_11, .inl (y 1, 121, .inl (fun _ => (0 : Int32)))), (n_12, .inl (y 1, 121, .inl (fun _ => (0 : Int32)))), (n_13, .inl (y 2, 121, .inr (.inl (fun _ => (0 : Int64))))), (n_14, .inl (y 3, 121, .inl (fun _ => (0 : Int32)))), (n_15, .inr (3, [.ref n_16, .ref n_17, .ref n_18, .ref n_19, .ref n_20, .int (0 : Int32)])), (n_16, .inl (y 1, 256, .inl (fun _ => (0 : Int32)))), (n_17, .inl (y 2, 256, .inr (.inl (fun _ => (0 : Int64))))), (n_18, .inl (y 1, 256, .inl (fun _ => (0 : Int32)))), (n_19, .inl (y 1, 256, .inl (fun _ => (0 : Int32)))), (n_20, .inl (y 2, 256, .inr (.inl (fun _ => (0 : Int64)))))] H := hP
  have hD : va_D A [(ax, .inr (7, [.ref n_1, .ref n_2, .ref n_10, .null])), (n_1, .inr (5, [.int (zb true), .int (zb false), .int (0 : Int32), .int (0 : Int32), .int (0 : Int32)])), (n_2, .inr (2, [.ref n_1, .ref n_3, .ref n_5, .ref n_7, .int (0 : Int32), .int (9 : Int32)])), (n_3, .inr (0, [.ref n_4])), (n_4, .inl (y 0, nb, .inl res.2.2.2.2.2.2.2)), (n_5, .inr (0, [.ref n_6])), (n_6, .inl (y 0, nb, .inl (fun _ => (0 : Int32)))), (n_7, .inr (4, [.ref n_1, .ref n_3, .int (0 : Int32), .int (-1 : Int32)])), (n_8, .inr (4, [.ref n_9, .ref n_3, .int res.2.2.2.2.2.1, .int res.2.2.2.2.2.2.1])), (n_9, .inr (5, [.int (zb res.1), .int (zb res.2.1), .int res.2.2.1, .int res.2.2.2.1, .int res.2.2.2.2.1])), (n_10, .inr (6, [.ref n_11, .ref n_12, .ref n_13, .ref n_14, .ref n_15, .int (0 : Int32), .long (0 : Int64)])), (n_11, .inl (y 1, 121, .inl (fun _ => (0 : Int32)))), (n_12, .inl (y 1, 121, .inl (fun _ => (0 : Int32)))), (n_13, .inl (y 2, 121, .inr (.inl (fun _ => (0 : Int64))))), (n_14, .inl (y 3, 121, .inl (fun _ => (0 : Int32)))), (n_15, .inr (3, [.ref n_16, .ref n_17, .ref n_18, .ref n_19, .ref n_20, .int (0 : Int32)])), (n_16, .inl (y 1, 256, .inl (fun _ => (0 : Int32)))), (n_17, .inl (y 2, 256, .inr (.inl (fun _ => (0 : Int64))))), (n_18, .inl (y 1, 256, .inl (fun _ => (0 : Int32)))), (n_19, .inl (y 1, 256, .inl (fun _ => (0 : Int32)))), (n_20, .inl (y 2, 256, .inr (.inl (fun _ => (0 : Int64)))))] := hD
  refine lv_aload_n hx hb dX8_init_53 rfl (lv_at hl 0 rfl) ?_
  refine va_new (ci := 1) (fs := [.int 0, .int 0, .int 0, .long 0]) (C := RX2) (T := TX2) (N := 4) hx hb hts iX2 tyX2 tyX2_ok hown (hts (.classLink RX8 41 RX2) (by decide +kernel)) (hts (.instantiable RX2 4) (by decide +kernel)) (hts (.initialized RX2) (by decide +kernel)) hK hP hD hS hA rfl (fun j hj => by rcases (show j = 0 ∨ j = 1 ∨ j = 2 ∨ j = 3 by omega) with rfl | rfl | rfl | rfl <;> rfl) (by show 20 + 1 ≤ 21; omega) (by show (1803 + 2 * nb) + 4 ≤ (1807 + 2 * nb); omega) dX8_init_54 (fun n_21 H hP hD hS => ?_)
  have hP : va_P D vwCl [(ax, .inr (7, [.ref n_1, .ref n_2, .ref n_10, .null])), (n_1, .inr (5, [.int (zb true), .int (zb false), .int (0 : Int32), .int (0 : Int32), .int (0 : Int32)])), (n_2, .inr (2, [.ref n_1, .ref n_3, .ref n_5, .ref n_7, .int (0 : Int32), .int (9 : Int32)])), (n_3, .inr (0, [.ref n_4])), (n_4, .inl (y 0, nb, .inl res.2.2.2.2.2.2.2)), (n_5, .inr (0, [.ref n_6])), (n_6, .inl (y 0, nb, .inl (fun _ => (0 : Int32)))), (n_7, .inr (4, [.ref n_1, .ref n_3, .int (0 : Int32), .int (-1 : Int32)])), (n_8, .inr (4, [.ref n_9, .ref n_3, .int res.2.2.2.2.2.1, .int res.2.2.2.2.2.2.1])), (n_9, .inr (5, [.int (zb res.1), .int (zb res.2.1), .int res.2.2.1, .int res.2.2.2.1, .int res.2.2.2.2.1])), (n_10, .inr (6, [.ref n_11, .ref n_12, .ref n_13, .ref n_14, .ref n_15, .int (0 : Int32), .long (0 : Int64)])), (n_11, .inl (y 1, 121, .inl (fun _ => (0 : Int32)))), (n_12, .inl (y 1, 121, .inl (fun _ => (0 : Int32)))), (n_13, .inl (y 2, 121, .inr (.inl (fun _ => (0 : Int64))))), (n_14, .inl (y 3, 121, .inl (fun _ => (0 : Int32)))), (n_15, .inr (3, [.ref n_16, .ref n_17, .ref n_18, .ref n_19, .ref n_20, .int (0 : Int32)])), (n_16, .inl (y 1, 256, .inl (fun _ => (0 : Int32)))), (n_17, .inl (y 2, 256, .inr (.inl (fun _ => (0 : Int64))))), (n_18, .inl (y 1, 256, .inl (fun _ => (0 : Int32)))), (n_19, .inl (y 1, 256, .inl (fun _ => (0 : Int32)))), (n_20, .inl (y 2, 256, .inr (.inl (fun _ => (0 : Int64))))), (n_21, .inr (1, [.int (0 : Int32), .int (0 : Int32), .int (0 : Int32), .long (0 : Int64)]))] H := hP
  have hD : va_D A [(ax, .inr (7, [.ref n_1, .ref n_2, .ref n_10, .null])), (n_1, .inr (5, [.int (zb true), .int (zb false), .int (0 : Int32), .int (0 : Int32), .int (0 : Int32)])), (n_2, .inr (2, [.ref n_1, .ref n_3, .ref n_5, .ref n_7, .int (0 : Int32), .int (9 : Int32)])), (n_3, .inr (0, [.ref n_4])), (n_4, .inl (y 0, nb, .inl res.2.2.2.2.2.2.2)), (n_5, .inr (0, [.ref n_6])), (n_6, .inl (y 0, nb, .inl (fun _ => (0 : Int32)))), (n_7, .inr (4, [.ref n_1, .ref n_3, .int (0 : Int32), .int (-1 : Int32)])), (n_8, .inr (4, [.ref n_9, .ref n_3, .int res.2.2.2.2.2.1, .int res.2.2.2.2.2.2.1])), (n_9, .inr (5, [.int (zb res.1), .int (zb res.2.1), .int res.2.2.1, .int res.2.2.2.1, .int res.2.2.2.2.1])), (n_10, .inr (6, [.ref n_11, .ref n_12, .ref n_13, .ref n_14, .ref n_15, .int (0 : Int32), .long (0 : Int64)])), (n_11, .inl (y 1, 121, .inl (fun _ => (0 : Int32)))), (n_12, .inl (y 1, 121, .inl (fun _ => (0 : Int32)))), (n_13, .inl (y 2, 121, .inr (.inl (fun _ => (0 : Int64))))), (n_14, .inl (y 3, 121, .inl (fun _ => (0 : Int32)))), (n_15, .inr (3, [.ref n_16, .ref n_17, .ref n_18, .ref n_19, .ref n_20, .int (0 : Int32)])), (n_16, .inl (y 1, 256, .inl (fun _ => (0 : Int32)))), (n_17, .inl (y 2, 256, .inr (.inl (fun _ => (0 : Int64))))), (n_18, .inl (y 1, 256, .inl (fun _ => (0 : Int32)))), (n_19, .inl (y 1, 256, .inl (fun _ => (0 : Int32)))), (n_20, .inl (y 2, 256, .inr (.inl (fun _ => (0 : Int64))))), (n_21, .inr (1, [.int (0 : Int32), .int (0 : Int32), .int (0 : Int32), .long (0 : Int64)]))] := hD
  refine W.widen (k := 21) (n := (1807 + 2 * nb)) (by omega) (by omega) ?_
  refine lv_dup hx hb dX8_init_57 rfl ?_
  refine ct_IN (As := []) (rest := [.ref n_21, .ref ax]) (wr := [(ax, .inr (7, [.ref n_1, .ref n_2, .ref n_10, .null])), (n_1, .inr (5, [.int (zb true), .int (zb false), .int (0 : Int32), .int (0 : Int32), .int (0 : Int32)])), (n_2, .inr (2, [.ref n_1, .ref n_3, .ref n_5, .ref n_7, .int (0 : Int32), .int (9 : Int32)])), (n_3, .inr (0, [.ref n_4])), (n_4, .inl (y 0, nb, .inl res.2.2.2.2.2.2.2)), (n_5, .inr (0, [.ref n_6])), (n_6, .inl (y 0, nb, .inl (fun _ => (0 : Int32)))), (n_7, .inr (4, [.ref n_1, .ref n_3, .int (0 : Int32), .int (-1 : Int32)])), (n_8, .inr (4, [.ref n_9, .ref n_3, .int res.2.2.2.2.2.1, .int res.2.2.2.2.2.2.1])), (n_9, .inr (5, [.int (zb res.1), .int (zb res.2.1), .int res.2.2.1, .int res.2.2.2.1, .int res.2.2.2.2.1])), (n_10, .inr (6, [.ref n_11, .ref n_12, .ref n_13, .ref n_14, .ref n_15, .int (0 : Int32), .long (0 : Int64)])), (n_11, .inl (y 1, 121, .inl (fun _ => (0 : Int32)))), (n_12, .inl (y 1, 121, .inl (fun _ => (0 : Int32)))), (n_13, .inl (y 2, 121, .inr (.inl (fun _ => (0 : Int64))))), (n_14, .inl (y 3, 121, .inl (fun _ => (0 : Int32)))), (n_15, .inr (3, [.ref n_16, .ref n_17, .ref n_18, .ref n_19, .ref n_20, .int (0 : Int32)])), (n_16, .inl (y 1, 256, .inl (fun _ => (0 : Int32)))), (n_17, .inl (y 2, 256, .inr (.inl (fun _ => (0 : Int64))))), (n_18, .inl (y 1, 256, .inl (fun _ => (0 : Int32)))), (n_19, .inl (y 1, 256, .inl (fun _ => (0 : Int32)))), (n_20, .inl (y 2, 256, .inr (.inl (fun _ => (0 : Int64)))))]) hfix (cX2_init_ok l D y n_21) ⟨va_cnB 0 hts gX8_init_X2_init_n43 rfl rfl rfl (E.2.2.1.2 (.methodLinkNest RX8 43 yX2_init RX8) (by decide +kernel)) (hts (.initialized RX2) (by decide +kernel)) (by decide +kernel) ⟨Nat.le_of_ble_eq_true rfl, Nat.le_of_ble_eq_true rfl⟩, rfl, hts (.instanceMethod yX2_init) (by decide +kernel)⟩ E hP hD hS [21] [0, 1, 2, 3, 4, 5, 6, 7, 8, 9, 10, 11, 12, 13, 14, 15, 16, 17, 18, 19, 20] rfl rfl rfl rfl (by decide) rfl hl.1 rfl (Nat.le_of_ble_eq_true rfl) dX8_init_58 ⟨(by show 21 + 0 ≤ 21; omega), (by show (1807 + 2 * nb) + 0 ≤ (1807 + 2 * nb); omega)⟩ (fun u H locs hP hD hS => ?_)
  have hP : va_P D vwCl [(ax, .inr (7, [.ref n_1, .ref n_2, .ref n_10, .null])), (n_1, .inr (5, [.int (zb true), .int (zb false), .int (0 : Int32), .int (0 : Int32), .int (0 : Int32)])), (n_2, .inr (2, [.ref n_1, .ref n_3, .ref n_5, .ref n_7, .int (0 : Int32), .int (9 : Int32)])), (n_3, .inr (0, [.ref n_4])), (n_4, .inl (y 0, nb, .inl res.2.2.2.2.2.2.2)), (n_5, .inr (0, [.ref n_6])), (n_6, .inl (y 0, nb, .inl (fun _ => (0 : Int32)))), (n_7, .inr (4, [.ref n_1, .ref n_3, .int (0 : Int32), .int (-1 : Int32)])), (n_8, .inr (4, [.ref n_9, .ref n_3, .int res.2.2.2.2.2.1, .int res.2.2.2.2.2.2.1])), (n_9, .inr (5, [.int (zb res.1), .int (zb res.2.1), .int res.2.2.1, .int res.2.2.2.1, .int res.2.2.2.2.1])), (n_10, .inr (6, [.ref n_11, .ref n_12, .ref n_13, .ref n_14, .ref n_15, .int (0 : Int32), .long (0 : Int64)])), (n_11, .inl (y 1, 121, .inl (fun _ => (0 : Int32)))), (n_12, .inl (y 1, 121, .inl (fun _ => (0 : Int32)))), (n_13, .inl (y 2, 121, .inr (.inl (fun _ => (0 : Int64))))), (n_14, .inl (y 3, 121, .inl (fun _ => (0 : Int32)))), (n_15, .inr (3, [.ref n_16, .ref n_17, .ref n_18, .ref n_19, .ref n_20, .int (0 : Int32)])), (n_16, .inl (y 1, 256, .inl (fun _ => (0 : Int32)))), (n_17, .inl (y 2, 256, .inr (.inl (fun _ => (0 : Int64))))), (n_18, .inl (y 1, 256, .inl (fun _ => (0 : Int32)))), (n_19, .inl (y 1, 256, .inl (fun _ => (0 : Int32)))), (n_20, .inl (y 2, 256, .inr (.inl (fun _ => (0 : Int64))))), (n_21, .inr (1, [.int (0 : Int32), .int (0 : Int32), .int (0 : Int32), .long (0 : Int64)]))] H := hP.sub [0, 1, 2, 3, 4, 5, 6, 7, 8, 9, 10, 11, 12, 13, 14, 15, 16, 17, 18, 19, 20, 21] rfl
  have hD : va_D A [(ax, .inr (7, [.ref n_1, .ref n_2, .ref n_10, .null])), (n_1, .inr (5, [.int (zb true), .int (zb false), .int (0 : Int32), .int (0 : Int32), .int (0 : Int32)])), (n_2, .inr (2, [.ref n_1, .ref n_3, .ref n_5, .ref n_7, .int (0 : Int32), .int (9 : Int32)])), (n_3, .inr (0, [.ref n_4])), (n_4, .inl (y 0, nb, .inl res.2.2.2.2.2.2.2)), (n_5, .inr (0, [.ref n_6])), (n_6, .inl (y 0, nb, .inl (fun _ => (0 : Int32)))), (n_7, .inr (4, [.ref n_1, .ref n_3, .int (0 : Int32), .int (-1 : Int32)])), (n_8, .inr (4, [.ref n_9, .ref n_3, .int res.2.2.2.2.2.1, .int res.2.2.2.2.2.2.1])), (n_9, .inr (5, [.int (zb res.1), .int (zb res.2.1), .int res.2.2.1, .int res.2.2.2.1, .int res.2.2.2.2.1])), (n_10, .inr (6, [.ref n_11, .ref n_12, .ref n_13, .ref n_14, .ref n_15, .int (0 : Int32), .long (0 : Int64)])), (n_11, .inl (y 1, 121, .inl (fun _ => (0 : Int32)))), (n_12, .inl (y 1, 121, .inl (fun _ => (0 : Int32)))), (n_13, .inl (y 2, 121, .inr (.inl (fun _ => (0 : Int64))))), (n_14, .inl (y 3, 121, .inl (fun _ => (0 : Int32)))), (n_15, .inr (3, [.ref n_16, .ref n_17, .ref n_18, .ref n_19, .ref n_20, .int (0 : Int32)])), (n_16, .inl (y 1, 256, .inl (fun _ => (0 : Int32)))), (n_17, .inl (y 2, 256, .inr (.inl (fun _ => (0 : Int64))))), (n_18, .inl (y 1, 256, .inl (fun _ => (0 : Int32)))), (n_19, .inl (y 1, 256, .inl (fun _ => (0 : Int32)))), (n_20, .inl (y 2, 256, .inr (.inl (fun _ => (0 : Int64))))), (n_21, .inr (1, [.int (0 : Int32), .int (0 : Int32), .int (0 : Int32), .long (0 : Int64)]))] := hD.sub [0, 1, 2, 3, 4, 5, 6, 7, 8, 9, 10, 11, 12, 13, 14, 15, 16, 17, 18, 19, 20, 21] (by decide) rfl
  refine W.widen (k := 21) (n := (1807 + 2 * nb)) (by omega) (by omega) ?_
  refine W.eq (g2 := F0 m 61 ls [.ref n_21, .ref ax]) rfl ?_
  refine va_putF (D := D) (ci := 7) (v := .ref n_21) (ty := .object "SampleTracker$Entry") (C := RX8) (T := TX8) (N := 4) hx hb hts iX8 tyX8 tyX8_ok nmX8 hown hK hP hD hS 0 rfl rfl 3 (by decide) (hts (.fieldLink RX8 44 "SampleTracker" "entry" "LSampleTracker$Entry;") (by decide +kernel)) (fun _ h9 => h9) rfl hin rfl (by decide +kernel) rfl rfl (Nat.le_of_ble_eq_true rfl) dX8_init_61 (fun H locs hP hD hS => ?_)
  have hP : va_P D vwCl [(ax, .inr (7, [.ref n_1, .ref n_2, .ref n_10, .ref n_21])), (n_1, .inr (5, [.int (zb true), .int (zb false), .int (0 : Int32), .int (0 : Int32), .int (0 : Int32)])), (n_2, .inr (2, [.ref n_1, .ref n_3, .ref n_5, .ref n_7, .int (0 : Int32), .int (9 : Int32)])), (n_3, .inr (0, [.ref n_4])), (n_4, .inl (y 0, nb, .inl res.2.2.2.2.2.2.2)), (n_5, .inr (0, [.ref n_6])), (n_6, .inl (y 0, nb, .inl (fun _ => (0 : Int32)))), (n_7, .inr (4, [.ref n_1, .ref n_3, .int (0 : Int32), .int (-1 : Int32)])), (n_8, .inr (4, [.ref n_9, .ref n_3, .int res.2.2.2.2.2.1, .int res.2.2.2.2.2.2.1])), (n_9, .inr (5, [.int (zb res.1), .int (zb res.2.1), .int res.2.2.1, .int res.2.2.2.1, .int res.2.2.2.2.1])), (n_10, .inr (6, [.ref n_11, .ref n_12, .ref n_13, .ref n_14, .ref n_15, .int (0 : Int32), .long (0 : Int64)])), (n_11, .inl (y 1, 121, .inl (fun _ => (0 : Int32)))), (n_12, .inl (y 1, 121, .inl (fun _ => (0 : Int32)))), (n_13, .inl (y 2, 121, .inr (.inl (fun _ => (0 : Int64))))), (n_14, .inl (y 3, 121, .inl (fun _ => (0 : Int32)))), (n_15, .inr (3, [.ref n_16, .ref n_17, .ref n_18, .ref n_19, .ref n_20, .int (0 : Int32)])), (n_16, .inl (y 1, 256, .inl (fun _ => (0 : Int32)))), (n_17, .inl (y 2, 256, .inr (.inl (fun _ => (0 : Int64))))), (n_18, .inl (y 1, 256, .inl (fun _ => (0 : Int32)))), (n_19, .inl (y 1, 256, .inl (fun _ => (0 : Int32)))), (n_20, .inl (y 2, 256, .inr (.inl (fun _ => (0 : Int64))))), (n_21, .inr (1, [.int (0 : Int32), .int (0 : Int32), .int (0 : Int32), .long (0 : Int64)]))] H := hP
  have hD : va_D A [(ax, .inr (7, [.ref n_1, .ref n_2, .ref n_10, .ref n_21])), (n_1, .inr (5, [.int (zb true), .int (zb false), .int (0 : Int32), .int (0 : Int32), .int (0 : Int32)])), (n_2, .inr (2, [.ref n_1, .ref n_3, .ref n_5, .ref n_7, .int (0 : Int32), .int (9 : Int32)])), (n_3, .inr (0, [.ref n_4])), (n_4, .inl (y 0, nb, .inl res.2.2.2.2.2.2.2)), (n_5, .inr (0, [.ref n_6])), (n_6, .inl (y 0, nb, .inl (fun _ => (0 : Int32)))), (n_7, .inr (4, [.ref n_1, .ref n_3, .int (0 : Int32), .int (-1 : Int32)])), (n_8, .inr (4, [.ref n_9, .ref n_3, .int res.2.2.2.2.2.1, .int res.2.2.2.2.2.2.1])), (n_9, .inr (5, [.int (zb res.1), .int (zb res.2.1), .int res.2.2.1, .int res.2.2.2.1, .int res.2.2.2.2.1])), (n_10, .inr (6, [.ref n_11, .ref n_12, .ref n_13, .ref n_14, .ref n_15, .int (0 : Int32), .long (0 : Int64)])), (n_11, .inl (y 1, 121, .inl (fun _ => (0 : Int32)))), (n_12, .inl (y 1, 121, .inl (fun _ => (0 : Int32)))), (n_13, .inl (y 2, 121, .inr (.inl (fun _ => (0 : Int64))))), (n_14, .inl (y 3, 121, .inl (fun _ => (0 : Int32)))), (n_15, .inr (3, [.ref n_16, .ref n_17, .ref n_18, .ref n_19, .ref n_20, .int (0 : Int32)])), (n_16, .inl (y 1, 256, .inl (fun _ => (0 : Int32)))), (n_17, .inl (y 2, 256, .inr (.inl (fun _ => (0 : Int64))))), (n_18, .inl (y 1, 256, .inl (fun _ => (0 : Int32)))), (n_19, .inl (y 1, 256, .inl (fun _ => (0 : Int32)))), (n_20, .inl (y 2, 256, .inr (.inl (fun _ => (0 : Int64))))), (n_21, .inr (1, [.int (0 : Int32), .int (0 : Int32), .int (0 : Int32), .long (0 : Int64)]))] := hD
  refine W.widen (k := 21) (n := (1807 + 2 * nb)) (by omega) (by omega) ?_
  exact W.vret hx hb hr (fun t ht hW => ⟨⟨(n_1, n_2, n_3, n_4, n_5, n_6, n_7, n_8, n_9, n_10, n_11, n_12, n_13, n_14, n_15, n_16, n_17, n_18, n_19, n_20, n_21), rfl, by rw [ht]; exact hP, hD⟩, hS.F ht⟩) hS.2.2 dX8_init_64
