/-! 11.entry: laid by wip/whole/gen.py: mirrors and contracts -/
set_option maxHeartbeats 4000000 in
set_option maxRecDepth 100000 in
theorem cX2_set_ok (l : Launch) (D : va_G) (y : Nat → ClassId) (ae : Nat) (ek : Int32) (es : Int32) (ew : Int32) (ev : Int64) (p1 : Int32) (p2 : Int32) (p3 : Int32) (p4 : Int64) : CT l D y yX2_set wsX2_set ({ frames := 0, cells := 0, slots := 0, locals := 0 } : Room) [.ref ae, .int p1, .int p2, .int p3, .long p4] [(ae, .inr (1, [.int ek, .int es, .int ew, .long ev]))] (none) [(ae, .inr (1, [.int p1, .int p2, .int p3, .long p4]))] := by
  intro sz
  refine Met.ofW (cc := cX2_set) (maxL := 6) (ret := none) (by decide) rfl ?_
  intro p e s m args below meth c s₁ B hml hv
  obtain ⟨rfl, hsz, hP, hK, hD0, hst, hno⟩ := hv
  have hx := B.exec
  have hb := B.bytes
  have hr := B.returns
  have hts := atoms_spec (ws := wsX2_set) B.pre
  have hown : s.vm.findClass RX2 = some m.cls := findClass_of_methodNamed B.named
  have hlocks := B.notSynchronized
  subst hsz
  have hD := hD0.self (sz := s.heap.size)
  generalize hAe : va_A [(ae, .inr (1, [.int ek, .int es, .int ew, .long ev]))] s.heap.size = A at hD hst ⊢
  have hA : ∀ q : Nat, s.heap.size ≤ q → A q := fun q h => by rw [← hAe]; exact Or.inr h
  have hS : va_S A s.heap s.heap [] := va_S.rf
  have E : Ev D y A s := ⟨hK, hst, hno, hA⟩
  have hfix : CallFix p m c cX2_set 6 s _ wsX2_set RX2 := ⟨hx, hb, hml, hown, hts⟩
  have hP : va_P D vwCl [(ae, .inr (1, [.int ek, .int es, .int ew, .long ev]))] s.heap := hP
  have iX2 : ∀ w ∈ wsX20, w ∈ wsX2_set := by decide +kernel
  have hl := lv_entry ([.ref ae, .int p1, .int p2, .int p3, .long p4]) (n := 6) (Nat.le_of_ble_eq_true rfl)
  rw [lg_entry_eq]
  generalize (lg_sl ([.ref ae, .int p1, .int p2, .int p3, .long p4]) ++ List.replicate (6 - (lg_sl ([.ref ae, .int p1, .int p2, .int p3, .long p4])).length) Slot.unset).toArray = ls at hl ⊢
  have hl : lv_has ls 6 [(0, .ref ae), (1, .int p1), (2, .int p2), (3, .int p3), (4, .long p4)] := hl
  refine lv_aload_n hx hb dX2_set_0 rfl (lv_at hl 0 rfl) ?_
  refine lv_iload_n hx hb dX2_set_1 rfl (lv_at hl 1 rfl) ?_
  refine va_put (D := D) (ci := 1) (v := .int p1) (ty := .int) (C := RX2) (T := TX2) (N := 4) hx hb hts iX2 tyX2 tyX2_ok nmX2 hown hK hP hD hS 0 rfl rfl 0 (by decide) (hts (.fieldLink RX2 9 "SampleTracker$Entry" "kind" "I") (by decide +kernel)) (fun _ h9 => h9) rfl (by decide +kernel) rfl rfl (Nat.le_of_ble_eq_true rfl) dX2_set_2 (fun H locs hP hD hS => ?_)
  have hP : va_P D vwCl [(ae, .inr (1, [.int p1, .int es, .int ew, .long ev]))] H := hP
  have hD : va_D A [(ae, .inr (1, [.int p1, .int es, .int ew, .long ev]))] := hD
  refine lv_aload_n hx hb dX2_set_5 rfl (lv_at hl 0 rfl) ?_
  refine lv_iload_n hx hb dX2_set_6 rfl (lv_at hl 2 rfl) ?_
  refine va_put (D := D) (ci := 1) (v := .int p2) (ty := .int) (C := RX2) (T := TX2) (N := 4) hx hb hts iX2 tyX2 tyX2_ok nmX2 hown hK hP hD hS 0 rfl rfl 1 (by decide) (hts (.fieldLink RX2 15 "SampleTracker$Entry" "sample" "I") (by decide +kernel)) (fun _ h9 => h9) rfl (by decide +kernel) rfl rfl (Nat.le_of_ble_eq_true rfl) dX2_set_7 (fun H locs hP hD hS => ?_)
  have hP : va_P D vwCl [(ae, .inr (1, [.int p1, .int p2, .int ew, .long ev]))] H := hP
  have hD : va_D A [(ae, .inr (1, [.int p1, .int p2, .int ew, .long ev]))] := hD
  refine lv_aload_n hx hb dX2_set_10 rfl (lv_at hl 0 rfl) ?_
  refine lv_iload_n hx hb dX2_set_11 rfl (lv_at hl 3 rfl) ?_
  refine va_put (D := D) (ci := 1) (v := .int p3) (ty := .int) (C := RX2) (T := TX2) (N := 4) hx hb hts iX2 tyX2 tyX2_ok nmX2 hown hK hP hD hS 0 rfl rfl 2 (by decide) (hts (.fieldLink RX2 18 "SampleTracker$Entry" "well" "I") (by decide +kernel)) (fun _ h9 => h9) rfl (by decide +kernel) rfl rfl (Nat.le_of_ble_eq_true rfl) dX2_set_12 (fun H locs hP hD hS => ?_)
  have hP : va_P D vwCl [(ae, .inr (1, [.int p1, .int p2, .int p3, .long ev]))] H := hP
  have hD : va_D A [(ae, .inr (1, [.int p1, .int p2, .int p3, .long ev]))] := hD
  refine lv_aload_n hx hb dX2_set_15 rfl (lv_at hl 0 rfl) ?_
  refine lv_lload hx hb dX2_set_16 (lv_at hl 4 rfl) ?_
  refine va_put (D := D) (ci := 1) (v := .long p4) (ty := .long) (C := RX2) (T := TX2) (N := 4) hx hb hts iX2 tyX2 tyX2_ok nmX2 hown hK hP hD hS 0 rfl rfl 3 (by decide) (hts (.fieldLink RX2 21 "SampleTracker$Entry" "volume" "J") (by decide +kernel)) (fun _ h9 => h9) rfl (by decide +kernel) rfl rfl (Nat.le_of_ble_eq_true rfl) dX2_set_18 (fun H locs hP hD hS => ?_)
  have hP : va_P D vwCl [(ae, .inr (1, [.int p1, .int p2, .int p3, .long p4]))] H := hP
  have hD : va_D A [(ae, .inr (1, [.int p1, .int p2, .int p3, .long p4]))] := hD
  exact W.vret hx hb hr (fun t ht hW => ⟨⟨(), rfl, by rw [ht]; exact hP, hD⟩, hS.F ht⟩) hS.2.2 dX2_set_21

def fX2_hasSample (ek : Int32) : Option (Bool) := (if ek = (2 : Int32) then some true else (if ek = (3 : Int32) then some true else (if ek = (4 : Int32) then some true else (if ek = (6 : Int32) then some true else some false))))

set_option maxHeartbeats 4000000 in
set_option maxRecDepth 100000 in
theorem cX2_hasSample_ok (l : Launch) (D : va_G) (y : Nat → ClassId) (ae : Nat) (ek : Int32) (es : Int32) (ew : Int32) (ev : Int64) (res : Bool) (hf : fX2_hasSample ek = some res) : CT l D y yX2_hasSample wsX2_hasSample ({ frames := 0, cells := 0, slots := 0, locals := 0 } : Room) [.ref ae] [(ae, .inr (1, [.int ek, .int es, .int ew, .long ev]))] (some (.int (zb res))) [(ae, .inr (1, [.int ek, .int es, .int ew, .long ev]))] := by
  intro sz
  refine Met.ofW (cc := cX2_hasSample) (maxL := 1) (ret := (some .boolean)) (by decide) rfl ?_
  intro p e s m args below meth c s₁ B hml hv
  obtain ⟨rfl, hsz, hP, hK, hD0, hst, hno⟩ := hv
  have hx := B.exec
  have hb := B.bytes
  have hr := B.returns
  have hts := atoms_spec (ws := wsX2_hasSample) B.pre
  have hown : s.vm.findClass RX2 = some m.cls := findClass_of_methodNamed B.named
  have hlocks := B.notSynchronized
  subst hsz
  have hD := hD0.self (sz := s.heap.size)
  generalize hAe : va_A [(ae, .inr (1, [.int ek, .int es, .int ew, .long ev]))] s.heap.size = A at hD hst ⊢
  have hA : ∀ q : Nat, s.heap.size ≤ q → A q := fun q h => by rw [← hAe]; exact Or.inr h
  have hS : va_S A s.heap s.heap [] := va_S.rf
  have E : Ev D y A s := ⟨hK, hst, hno, hA⟩
  have hfix : CallFix p m c cX2_hasSample 1 s _ wsX2_hasSample RX2 := ⟨hx, hb, hml, hown, hts⟩
  have hP : va_P D vwCl [(ae, .inr (1, [.int ek, .int es, .int ew, .long ev]))] s.heap := hP
  have iX2 : ∀ w ∈ wsX20, w ∈ wsX2_hasSample := by decide +kernel
  have hl := lv_entry ([.ref ae]) (n := 1) (Nat.le_of_ble_eq_true rfl)
  rw [lg_entry_eq]
  generalize (lg_sl ([.ref ae]) ++ List.replicate (1 - (lg_sl ([.ref ae])).length) Slot.unset).toArray = ls at hl ⊢
  have hl : lv_has ls 1 [(0, .ref ae)] := hl
  unfold fX2_hasSample at hf
  refine lv_aload_n hx hb dX2_hasSample_0 rfl (lv_at hl 0 rfl) ?_
  refine va_get (D := D) (ci := 1) (v := .int ek) (C := RX2) (T := TX2) (N := 4) hx hb hts iX2 hown hK hP 0 rfl rfl 0 (by decide) (hts (.fieldLink RX2 9 "SampleTracker$Entry" "kind" "I") (by decide +kernel)) (fun _ h9 => h9) rfl dX2_hasSample_1 ?_
  refine lv_iconst (v := (2 : Int32)) hx hb dX2_hasSample_4 (by decide) ?_
  refine lv_icmp_eq (tgt := 33) hx hb dX2_hasSample_5 (by decide) (fun c_1 => ?_) (fun c_1 => ?_)
  · have hf := ifp hf c_1
    refine lv_iconst (v := (1 : Int32)) hx hb dX2_hasSample_33 (by decide) ?_
    refine lv_goto (tgt := 38) hx hb dX2_hasSample_34 (by decide) ?_
    obtain rfl := Option.some.inj hf
    exact W.zret (ty := .boolean) hx hb hr rfl (fun t ht hW => ⟨⟨(), rfl, by rw [ht]; exact hP, hD⟩, hS.F ht⟩) hS.2.2 dX2_hasSample_38
  · have hf := ifn hf c_1
    refine lv_aload_n hx hb dX2_hasSample_8 rfl (lv_at hl 0 rfl) ?_
    refine va_get (D := D) (ci := 1) (v := .int ek) (C := RX2) (T := TX2) (N := 4) hx hb hts iX2 hown hK hP 0 rfl rfl 0 (by decide) (hts (.fieldLink RX2 9 "SampleTracker$Entry" "kind" "I") (by decide +kernel)) (fun _ h9 => h9) rfl dX2_hasSample_9 ?_
    refine lv_iconst (v := (3 : Int32)) hx hb dX2_hasSample_12 (by decide) ?_
    refine lv_icmp_eq (tgt := 33) hx hb dX2_hasSample_13 (by decide) (fun c_2 => ?_) (fun c_2 => ?_)
    · have hf := ifp hf c_2
      refine lv_iconst (v := (1 : Int32)) hx hb dX2_hasSample_33 (by decide) ?_
      refine lv_goto (tgt := 38) hx hb dX2_hasSample_34 (by decide) ?_
      obtain rfl := Option.some.inj hf
      exact W.zret (ty := .boolean) hx hb hr rfl (fun t ht hW => ⟨⟨(), rfl, by rw [ht]; exact hP, hD⟩, hS.F ht⟩) hS.2.2 dX2_hasSample_38
    · have hf := ifn hf c_2
      refine lv_aload_n hx hb dX2_hasSample_16 rfl (lv_at hl 0 rfl) ?_
      refine va_get (D := D) (ci := 1) (v := .int ek) (C := RX2) (T := TX2) (N := 4) hx hb hts iX2 hown hK hP 0 rfl rfl 0 (by decide) (hts (.fieldLink RX2 9 "SampleTracker$Entry" "kind" "I") (by decide +kernel)) (fun _ h9 => h9) rfl dX2_hasSample_17 ?_
      refine lv_iconst (v := (4 : Int32)) hx hb dX2_hasSample_20 (by decide) ?_
      refine lv_icmp_eq (tgt := 33) hx hb dX2_hasSample_21 (by decide) (fun c_3 => ?_) (fun c_3 => ?_)
      · have hf := ifp hf c_3
        refine lv_iconst (v := (1 : Int32)) hx hb dX2_hasSample_33 (by decide) ?_
        refine lv_goto (tgt := 38) hx hb dX2_hasSample_34 (by decide) ?_
        obtain rfl := Option.some.inj hf
        exact W.zret (ty := .boolean) hx hb hr rfl (fun t ht hW => ⟨⟨(), rfl, by rw [ht]; exact hP, hD⟩, hS.F ht⟩) hS.2.2 dX2_hasSample_38
      · have hf := ifn hf c_3
        refine lv_aload_n hx hb dX2_hasSample_24 rfl (lv_at hl 0 rfl) ?_
        refine va_get (D := D) (ci := 1) (v := .int ek) (C := RX2) (T := TX2) (N := 4) hx hb hts iX2 hown hK hP 0 rfl rfl 0 (by decide) (hts (.fieldLink RX2 9 "SampleTracker$Entry" "kind" "I") (by decide +kernel)) (fun _ h9 => h9) rfl dX2_hasSample_25 ?_
        refine lv_bipush (v := (6 : Int32)) hx hb dX2_hasSample_28 (by decide) ?_
        refine lv_icmp_ne (tgt := 37) hx hb dX2_hasSample_30 (by decide) (fun c_4 => ?_) (fun c_4 => ?_)
        · have hf := ifn hf c_4
          refine lv_iconst (v := (0 : Int32)) hx hb dX2_hasSample_37 (by decide) ?_
          obtain rfl := Option.some.inj hf
          exact W.zret (ty := .boolean) hx hb hr rfl (fun t ht hW => ⟨⟨(), rfl, by rw [ht]; exact hP, hD⟩, hS.F ht⟩) hS.2.2 dX2_hasSample_38
        · have hf := ifp hf c_4
          refine lv_iconst (v := (1 : Int32)) hx hb dX2_hasSample_33 (by decide) ?_
          refine lv_goto (tgt := 38) hx hb dX2_hasSample_34 (by decide) ?_
          obtain rfl := Option.some.inj hf
          exact W.zret (ty := .boolean) hx hb hr rfl (fun t ht hW => ⟨⟨(), rfl, by rw [ht]; exact hP, hD⟩, hS.F ht⟩) hS.2.2 dX2_hasSample_38

def fX2_hasWell (ek : Int32) : Option (Bool) := (if ek = (1 : Int32) then some true else (if ek = (2 : Int32) then some true else (if ek = (3 : Int32) then some true else (if ek = (6 : Int32) then some true else some false))))

set_option maxHeartbeats 4000000 in
set_option maxRecDepth 100000 in
theorem cX2_hasWell_ok (l : Launch) (D : va_G) (y : Nat → ClassId) (ae : Nat) (ek : Int32) (es : Int32) (ew : Int32) (ev : Int64) (res : Bool) (hf : fX2_hasWell ek = some res) : CT l D y yX2_hasWell wsX2_hasWell ({ frames := 0, cells := 0, slots := 0, locals := 0 } : Room) [.ref ae] [(ae, .inr (1, [.int ek, .int es, .int ew, .long ev]))] (some (.int (zb res))) [(ae, .inr (1, [.int ek, .int es, .int ew, .long ev]))] := by
  intro sz
  refine Met.ofW (cc := cX2_hasWell) (maxL := 1) (ret := (some .boolean)) (by decide) rfl ?_
  intro p e s m args below meth c s₁ B hml hv
  obtain ⟨rfl, hsz, hP, hK, hD0, hst, hno⟩ := hv
  have hx := B.exec
  have hb := B.bytes
  have hr := B.returns
  have hts := atoms_spec (ws := wsX2_hasWell) B.pre
  have hown : s.vm.findClass RX2 = some m.cls := findClass_of_methodNamed B.named
  have hlocks := B.notSynchronized
  subst hsz
  have hD := hD0.self (sz := s.heap.size)
  generalize hAe : va_A [(ae, .inr (1, [.int ek, .int es, .int ew, .long ev]))] s.heap.size = A at hD hst ⊢
  have hA : ∀ q : Nat, s.heap.size ≤ q → A q := fun q h => by rw [← hAe]; exact Or.inr h
  have hS : va_S A s.heap s.heap [] := va_S.rf
  have E : Ev D y A s := ⟨hK, hst, hno, hA⟩
  have hfix : CallFix p m c cX2_hasWell 1 s _ wsX2_hasWell RX2 := ⟨hx, hb, hml, hown, hts⟩
  have hP : va_P D vwCl [(ae, .inr (1, [.int ek, .int es, .int ew, .long ev]))] s.heap := hP
  have iX2 : ∀ w ∈ wsX20, w ∈ wsX2_hasWell := by decide +kernel
  have hl := lv_entry ([.ref ae]) (n := 1) (Nat.le_of_ble_eq_true rfl)
  rw [lg_entry_eq]
  generalize (lg_sl ([.ref ae]) ++ List.replicate (1 - (lg_sl ([.ref ae])).length) Slot.unset).toArray = ls at hl ⊢
  have hl : lv_has ls 1 [(0, .ref ae)] := hl
  unfold fX2_hasWell at hf
  refine lv_aload_n hx hb dX2_hasWell_0 rfl (lv_at hl 0 rfl) ?_
  refine va_get (D := D) (ci := 1) (v := .int ek) (C := RX2) (T := TX2) (N := 4) hx hb hts iX2 hown hK hP 0 rfl rfl 0 (by decide) (hts (.fieldLink RX2 9 "SampleTracker$Entry" "kind" "I") (by decide +kernel)) (fun _ h9 => h9) rfl dX2_hasWell_1 ?_
  refine lv_iconst (v := (1 : Int32)) hx hb dX2_hasWell_4 (by decide) ?_
  refine lv_icmp_eq (tgt := 33) hx hb dX2_hasWell_5 (by decide) (fun c_1 => ?_) (fun c_1 => ?_)
  · have hf := ifp hf c_1
    refine lv_iconst (v := (1 : Int32)) hx hb dX2_hasWell_33 (by decide) ?_
    refine lv_goto (tgt := 38) hx hb dX2_hasWell_34 (by decide) ?_
    obtain rfl := Option.some.inj hf
    exact W.zret (ty := .boolean) hx hb hr rfl (fun t ht hW => ⟨⟨(), rfl, by rw [ht]; exact hP, hD⟩, hS.F ht⟩) hS.2.2 dX2_hasWell_38
  · have hf := ifn hf c_1
    refine lv_aload_n hx hb dX2_hasWell_8 rfl (lv_at hl 0 rfl) ?_
    refine va_get (D := D) (ci := 1) (v := .int ek) (C := RX2) (T := TX2) (N := 4) hx hb hts iX2 hown hK hP 0 rfl rfl 0 (by decide) (hts (.fieldLink RX2 9 "SampleTracker$Entry" "kind" "I") (by decide +kernel)) (fun _ h9 => h9) rfl dX2_hasWell_9 ?_
    refine lv_iconst (v := (2 : Int32)) hx hb dX2_hasWell_12 (by decide) ?_
    refine lv_icmp_eq (tgt := 33) hx hb dX2_hasWell_13 (by decide) (fun c_2 => ?_) (fun c_2 => ?_)
    · have hf := ifp hf c_2
      refine lv_iconst (v := (1 : Int32)) hx hb dX2_hasWell_33 (by decide) ?_
      refine lv_goto (tgt := 38) hx hb dX2_hasWell_34 (by decide) ?_
      obtain rfl := Option.some.inj hf
      exact W.zret (ty := .boolean) hx hb hr rfl (fun t ht hW => ⟨⟨(), rfl, by rw [ht]; exact hP, hD⟩, hS.F ht⟩) hS.2.2 dX2_hasWell_38
    · have hf := ifn hf c_2
      refine lv_aload_n hx hb dX2_hasWell_16 rfl (lv_at hl 0 rfl) ?_
      refine va_get (D := D) (ci := 1) (v := .int ek) (C := RX2) (T := TX2) (N := 4) hx hb hts iX2 hown hK hP 0 rfl rfl 0 (by decide) (hts (.fieldLink RX2 9 "SampleTracker$Entry" "kind" "I") (by decide +kernel)) (fun _ h9 => h9) rfl dX2_hasWell_17 ?_
      refine lv_iconst (v := (3 : Int32)) hx hb dX2_hasWell_20 (by decide) ?_
      refine lv_icmp_eq (tgt := 33) hx hb dX2_hasWell_21 (by decide) (fun c_3 => ?_) (fun c_3 => ?_)
      · have hf := ifp hf c_3
        refine lv_iconst (v := (1 : Int32)) hx hb dX2_hasWell_33 (by decide) ?_
        refine lv_goto (tgt := 38) hx hb dX2_hasWell_34 (by decide) ?_
        obtain rfl := Option.some.inj hf
        exact W.zret (ty := .boolean) hx hb hr rfl (fun t ht hW => ⟨⟨(), rfl, by rw [ht]; exact hP, hD⟩, hS.F ht⟩) hS.2.2 dX2_hasWell_38
      · have hf := ifn hf c_3
        refine lv_aload_n hx hb dX2_hasWell_24 rfl (lv_at hl 0 rfl) ?_
        refine va_get (D := D) (ci := 1) (v := .int ek) (C := RX2) (T := TX2) (N := 4) hx hb hts iX2 hown hK hP 0 rfl rfl 0 (by decide) (hts (.fieldLink RX2 9 "SampleTracker$Entry" "kind" "I") (by decide +kernel)) (fun _ h9 => h9) rfl dX2_hasWell_25 ?_
        refine lv_bipush (v := (6 : Int32)) hx hb dX2_hasWell_28 (by decide) ?_
        refine lv_icmp_ne (tgt := 37) hx hb dX2_hasWell_30 (by decide) (fun c_4 => ?_) (fun c_4 => ?_)
        · have hf := ifn hf c_4
          refine lv_iconst (v := (0 : Int32)) hx hb dX2_hasWell_37 (by decide) ?_
          obtain rfl := Option.some.inj hf
          exact W.zret (ty := .boolean) hx hb hr rfl (fun t ht hW => ⟨⟨(), rfl, by rw [ht]; exact hP, hD⟩, hS.F ht⟩) hS.2.2 dX2_hasWell_38
        · have hf := ifp hf c_4
          refine lv_iconst (v := (1 : Int32)) hx hb dX2_hasWell_33 (by decide) ?_
          refine lv_goto (tgt := 38) hx hb dX2_hasWell_34 (by decide) ?_
          obtain rfl := Option.some.inj hf
          exact W.zret (ty := .boolean) hx hb hr rfl (fun t ht hW => ⟨⟨(), rfl, by rw [ht]; exact hP, hD⟩, hS.F ht⟩) hS.2.2 dX2_hasWell_38

def fX2_hasVolume (ek : Int32) : Option (Bool) := (if ek = (1 : Int32) then some true else (if ek = (2 : Int32) then some true else (if ek = (6 : Int32) then some true else (if ek = (7 : Int32) then some true else some false))))

set_option maxHeartbeats 4000000 in
set_option maxRecDepth 100000 in
theorem cX2_hasVolume_ok (l : Launch) (D : va_G) (y : Nat → ClassId) (ae : Nat) (ek : Int32) (es : Int32) (ew : Int32) (ev : Int64) (res : Bool) (hf : fX2_hasVolume ek = some res) : CT l D y yX2_hasVolume wsX2_hasVolume ({ frames := 0, cells := 0, slots := 0, locals := 0 } : Room) [.ref ae] [(ae, .inr (1, [.int ek, .int es, .int ew, .long ev]))] (some (.int (zb res))) [(ae, .inr (1, [.int ek, .int es, .int ew, .long ev]))] := by
  intro sz
  refine Met.ofW (cc := cX2_hasVolume) (maxL := 1) (ret := (some .boolean)) (by decide) rfl ?_
  intro p e s m args below meth c s₁ B hml hv
  obtain ⟨rfl, hsz, hP, hK, hD0, hst, hno⟩ := hv
  have hx := B.exec
  have hb := B.bytes
  have hr := B.returns
  have hts := atoms_spec (ws := wsX2_hasVolume) B.pre
  have hown : s.vm.findClass RX2 = some m.cls := findClass_of_methodNamed B.named
  have hlocks := B.notSynchronized
  subst hsz
  have hD := hD0.self (sz := s.heap.size)
  generalize hAe : va_A [(ae, .inr (1, [.int ek, .int es, .int ew, .long ev]))] s.heap.size = A at hD hst ⊢
  have hA : ∀ q : Nat, s.heap.size ≤ q → A q := fun q h => by rw [← hAe]; exact Or.inr h
  have hS : va_S A s.heap s.heap [] := va_S.rf
  have E : Ev D y A s := ⟨hK, hst, hno, hA⟩
  have hfix : CallFix p m c cX2_hasVolume 1 s _ wsX2_hasVolume RX2 := ⟨hx, hb, hml, hown, hts⟩
  have hP : va_P D vwCl [(ae, .inr (1, [.int ek, .int es, .int ew, .long ev]))] s.heap := hP
  have iX2 : ∀ w ∈ wsX20, w ∈ wsX2_hasVolume := by decide +kernel
  have hl := lv_entry ([.ref ae]) (n := 1) (Nat.le_of_ble_eq_true rfl)
  rw [lg_entry_eq]
  generalize (lg_sl ([.ref ae]) ++ List.replicate (1 - (lg_sl ([.ref ae])).length) Slot.unset).toArray = ls at hl ⊢
  have hl : lv_has ls 1 [(0, .ref ae)] := hl
  unfold fX2_hasVolume at hf
  refine lv_aload_n hx hb dX2_hasVolume_0 rfl (lv_at hl 0 rfl) ?_
  refine va_get (D := D) (ci := 1) (v := .int ek) (C := RX2) (T := TX2) (N := 4) hx hb hts iX2 hown hK hP 0 rfl rfl 0 (by decide) (hts (.fieldLink RX2 9 "SampleTracker$Entry" "kind" "I") (by decide +kernel)) (fun _ h9 => h9) rfl dX2_hasVolume_1 ?_
  refine lv_iconst (v := (1 : Int32)) hx hb dX2_hasVolume_4 (by decide) ?_
  refine lv_icmp_eq (tgt := 34) hx hb dX2_hasVolume_5 (by decide) (fun c_1 => ?_) (fun c_1 => ?_)
  · have hf := ifp hf c_1
    refine lv_iconst (v := (1 : Int32)) hx hb dX2_hasVolume_34 (by decide) ?_
    refine lv_goto (tgt := 39) hx hb dX2_hasVolume_35 (by decide) ?_
    obtain rfl := Option.some.inj hf
    exact W.zret (ty := .boolean) hx hb hr rfl (fun t ht hW => ⟨⟨(), rfl, by rw [ht]; exact hP, hD⟩, hS.F ht⟩) hS.2.2 dX2_hasVolume_39
  · have hf := ifn hf c_1
    refine lv_aload_n hx hb dX2_hasVolume_8 rfl (lv_at hl 0 rfl) ?_
    refine va_get (D := D) (ci := 1) (v := .int ek) (C := RX2) (T := TX2) (N := 4) hx hb hts iX2 hown hK hP 0 rfl rfl 0 (by decide) (hts (.fieldLink RX2 9 "SampleTracker$Entry" "kind" "I") (by decide +kernel)) (fun _ h9 => h9) rfl dX2_hasVolume_9 ?_
    refine lv_iconst (v := (2 : Int32)) hx hb dX2_hasVolume_12 (by decide) ?_
    refine lv_icmp_eq (tgt := 34) hx hb dX2_hasVolume_13 (by decide) (fun c_2 => ?_) (fun c_2 => ?_)
    · have hf := ifp hf c_2
      refine lv_iconst (v := (1 : Int32)) hx hb dX2_hasVolume_34 (by decide) ?_
      refine lv_goto (tgt := 39) hx hb dX2_hasVolume_35 (by decide) ?_
      obtain rfl := Option.some.inj hf
      exact W.zret (ty := .boolean) hx hb hr rfl (fun t ht hW => ⟨⟨(), rfl, by rw [ht]; exact hP, hD⟩, hS.F ht⟩) hS.2.2 dX2_hasVolume_39
    · have hf := ifn hf c_2
      refine lv_aload_n hx hb dX2_hasVolume_16 rfl (lv_at hl 0 rfl) ?_
      refine va_get (D := D) (ci := 1) (v := .int ek) (C := RX2) (T := TX2) (N := 4) hx hb hts iX2 hown hK hP 0 rfl rfl 0 (by decide) (hts (.fieldLink RX2 9 "SampleTracker$Entry" "kind" "I") (by decide +kernel)) (fun _ h9 => h9) rfl dX2_hasVolume_17 ?_
      refine lv_bipush (v := (6 : Int32)) hx hb dX2_hasVolume_20 (by decide) ?_
      refine lv_icmp_eq (tgt := 34) hx hb dX2_hasVolume_22 (by decide) (fun c_3 => ?_) (fun c_3 => ?_)
      · have hf := ifp hf c_3
        refine lv_iconst (v := (1 : Int32)) hx hb dX2_hasVolume_34 (by decide) ?_
        refine lv_goto (tgt := 39) hx hb dX2_hasVolume_35 (by decide) ?_
        obtain rfl := Option.some.inj hf
        exact W.zret (ty := .boolean) hx hb hr rfl (fun t ht hW => ⟨⟨(), rfl, by rw [ht]; exact hP, hD⟩, hS.F ht⟩) hS.2.2 dX2_hasVolume_39
      · have hf := ifn hf c_3
        refine lv_aload_n hx hb dX2_hasVolume_25 rfl (lv_at hl 0 rfl) ?_
        refine va_get (D := D) (ci := 1) (v := .int ek) (C := RX2) (T := TX2) (N := 4) hx hb hts iX2 hown hK hP 0 rfl rfl 0 (by decide) (hts (.fieldLink RX2 9 "SampleTracker$Entry" "kind" "I") (by decide +kernel)) (fun _ h9 => h9) rfl dX2_hasVolume_26 ?_
        refine lv_bipush (v := (7 : Int32)) hx hb dX2_hasVolume_29 (by decide) ?_
        refine lv_icmp_ne (tgt := 38) hx hb dX2_hasVolume_31 (by decide) (fun c_4 => ?_) (fun c_4 => ?_)
        · have hf := ifn hf c_4
          refine lv_iconst (v := (0 : Int32)) hx hb dX2_hasVolume_38 (by decide) ?_
          obtain rfl := Option.some.inj hf
          exact W.zret (ty := .boolean) hx hb hr rfl (fun t ht hW => ⟨⟨(), rfl, by rw [ht]; exact hP, hD⟩, hS.F ht⟩) hS.2.2 dX2_hasVolume_39
        · have hf := ifp hf c_4
          refine lv_iconst (v := (1 : Int32)) hx hb dX2_hasVolume_34 (by decide) ?_
          refine lv_goto (tgt := 39) hx hb dX2_hasVolume_35 (by decide) ?_
          obtain rfl := Option.some.inj hf
          exact W.zret (ty := .boolean) hx hb hr rfl (fun t ht hW => ⟨⟨(), rfl, by rw [ht]; exact hP, hD⟩, hS.F ht⟩) hS.2.2 dX2_hasVolume_39

def fX2_length (ek : Int32) : Option (Int32) := ((fX2_hasSample ek).bind fun r_1 => (if (zb r_1) = 0 then ((fX2_hasWell ek).bind fun r_4 => (if (zb r_4) = 0 then ((fX2_hasVolume ek).bind fun r_7 => (if (zb r_7) = 0 then some ((((8 : Int32) + (0 : Int32)) + (0 : Int32)) + (0 : Int32)) else some ((((8 : Int32) + (0 : Int32)) + (0 : Int32)) + (8 : Int32)))) else ((fX2_hasVolume ek).bind fun r_10 => (if (zb r_10) = 0 then some ((((8 : Int32) + (0 : Int32)) + (1 : Int32)) + (0 : Int32)) else some ((((8 : Int32) + (0 : Int32)) + (1 : Int32)) + (8 : Int32)))))) else ((fX2_hasWell ek).bind fun r_13 => (if (zb r_13) = 0 then ((fX2_hasVolume ek).bind fun r_16 => (if (zb r_16) = 0 then some ((((8 : Int32) + (2 : Int32)) + (0 : Int32)) + (0 : Int32)) else some ((((8 : Int32) + (2 : Int32)) + (0 : Int32)) + (8 : Int32)))) else ((fX2_hasVolume ek).bind fun r_19 => (if (zb r_19) = 0 then some ((((8 : Int32) + (2 : Int32)) + (1 : Int32)) + (0 : Int32)) else some ((((8 : Int32) + (2 : Int32)) + (1 : Int32)) + (8 : Int32))))))))

set_option maxHeartbeats 4000000 in
set_option maxRecDepth 100000 in
theorem cX2_length_ok (l : Launch) (D : va_G) (y : Nat → ClassId) (ae : Nat) (ek : Int32) (es : Int32) (ew : Int32) (ev : Int64) (res : Int32) (hf : fX2_length ek = some res) : CT l D y yX2_length wsX2_length ({ frames := 1, cells := 0, slots := 0, locals := 20 } : Room) [.ref ae] [(ae, .inr (1, [.int ek, .int es, .int ew, .long ev]))] (some (.int res)) [(ae, .inr (1, [.int ek, .int es, .int ew, .long ev]))] := by
  intro sz
  refine Met.ofW (cc := cX2_length) (maxL := 1) (ret := (some .int)) (by decide) rfl ?_
  intro p e s m args below meth c s₁ B hml hv
  obtain ⟨rfl, hsz, hP, hK, hD0, hst, hno⟩ := hv
  have hx := B.exec
  have hb := B.bytes
  have hr := B.returns
  have hts := atoms_spec (ws := wsX2_length) B.pre
  have hown : s.vm.findClass RX2 = some m.cls := findClass_of_methodNamed B.named
  have hlocks := B.notSynchronized
  subst hsz
  have hD := hD0.self (sz := s.heap.size)
  generalize hAe : va_A [(ae, .inr (1, [.int ek, .int es, .int ew, .long ev]))] s.heap.size = A at hD hst ⊢
  have hA : ∀ q : Nat, s.heap.size ≤ q → A q := fun q h => by rw [← hAe]; exact Or.inr h
  have hS : va_S A s.heap s.heap [] := va_S.rf
  have E : Ev D y A s := ⟨hK, hst, hno, hA⟩
  have hfix : CallFix p m c cX2_length 1 s _ wsX2_length RX2 := ⟨hx, hb, hml, hown, hts⟩
  have hP : va_P D vwCl [(ae, .inr (1, [.int ek, .int es, .int ew, .long ev]))] s.heap := hP
  have hl := lv_entry ([.ref ae]) (n := 1) (Nat.le_of_ble_eq_true rfl)
  rw [lg_entry_eq]
  generalize (lg_sl ([.ref ae]) ++ List.replicate (1 - (lg_sl ([.ref ae])).length) Slot.unset).toArray = ls at hl ⊢
  have hl : lv_has ls 1 [(0, .ref ae)] := hl
  unfold fX2_length at hf
  refine lv_bipush (v := (8 : Int32)) hx hb dX2_length_0 (by decide) ?_
  refine lv_aload_n hx hb dX2_length_2 rfl (lv_at hl 0 rfl) ?_
  obtain ⟨r_1, hc_2, hf⟩ := obd hf
  refine ct_V (As := []) (rest := [.int (8 : Int32)]) (wr := []) (wn := [(ae, .inr (1, [.int ek, .int es, .int ew, .long ev]))]) hfix (cX2_hasSample_ok l D y ae ek es ew ev _ hc_2) (cwV 0 hts gX2_length_X2_hasSample rfl rfl rfl (by decide +kernel) ⟨Nat.le_of_ble_eq_true rfl, Nat.le_of_ble_eq_true rfl⟩) E hP hD hS [0] [] [0] rfl rfl rfl rfl (by decide) rfl rfl 0 1 rfl rfl rfl hl.1 rfl (Nat.le_of_ble_eq_true rfl) dX2_length_3 ⟨Nat.zero_le _, Nat.zero_le _⟩ (fun H locs hP hD hS => ?_)
  refine W.eq (g2 := F0 m 6 ls [.int (zb r_1), .int (8 : Int32)]) rfl ?_
  refine lv_if_eq (tgt := 13) hx hb dX2_length_6 (by decide) (fun c_3 => ?_) (fun c_3 => ?_)
  · have hf := ifp hf c_3
    refine lv_iconst (v := (0 : Int32)) hx hb dX2_length_13 (by decide) ?_
    refine lv_iadd hx hb dX2_length_14 ?_
    refine lv_aload_n hx hb dX2_length_15 rfl (lv_at hl 0 rfl) ?_
    obtain ⟨r_4, hc_5, hf⟩ := obd hf
    refine ct_V (As := []) (rest := [.int ((8 : Int32) + (0 : Int32))]) (wr := []) (wn := [(ae, .inr (1, [.int ek, .int es, .int ew, .long ev]))]) hfix (cX2_hasWell_ok l D y ae ek es ew ev _ hc_5) (cwV 0 hts gX2_length_X2_hasWell rfl rfl rfl (by decide +kernel) ⟨Nat.le_of_ble_eq_true rfl, Nat.le_of_ble_eq_true rfl⟩) E hP hD hS [0] [] [0] rfl rfl rfl rfl (by decide) rfl rfl 0 1 rfl rfl rfl hl.1 rfl (Nat.le_of_ble_eq_true rfl) dX2_length_16 ⟨Nat.zero_le _, Nat.zero_le _⟩ (fun H locs hP hD hS => ?_)
    refine W.eq (g2 := F0 m 19 ls [.int (zb r_4), .int ((8 : Int32) + (0 : Int32))]) rfl ?_
    refine lv_if_eq (tgt := 26) hx hb dX2_length_19 (by decide) (fun c_6 => ?_) (fun c_6 => ?_)
    · have hf := ifp hf c_6
      refine lv_iconst (v := (0 : Int32)) hx hb dX2_length_26 (by decide) ?_
      refine lv_iadd hx hb dX2_length_27 ?_
      refine lv_aload_n hx hb dX2_length_28 rfl (lv_at hl 0 rfl) ?_
      obtain ⟨r_7, hc_8, hf⟩ := obd hf
      refine ct_V (As := []) (rest := [.int (((8 : Int32) + (0 : Int32)) + (0 : Int32))]) (wr := []) (wn := [(ae, .inr (1, [.int ek, .int es, .int ew, .long ev]))]) hfix (cX2_hasVolume_ok l D y ae ek es ew ev _ hc_8) (cwV 0 hts gX2_length_X2_hasVolume rfl rfl rfl (by decide +kernel) ⟨Nat.le_of_ble_eq_true rfl, Nat.le_of_ble_eq_true rfl⟩) E hP hD hS [0] [] [0] rfl rfl rfl rfl (by decide) rfl rfl 0 1 rfl rfl rfl hl.1 rfl (Nat.le_of_ble_eq_true rfl) dX2_length_29 ⟨Nat.zero_le _, Nat.zero_le _⟩ (fun H locs hP hD hS => ?_)
      refine W.eq (g2 := F0 m 32 ls [.int (zb r_7), .int (((8 : Int32) + (0 : Int32)) + (0 : Int32))]) rfl ?_
      refine lv_if_eq (tgt := 40) hx hb dX2_length_32 (by decide) (fun c_9 => ?_) (fun c_9 => ?_)
      · have hf := ifp hf c_9
        refine lv_iconst (v := (0 : Int32)) hx hb dX2_length_40 (by decide) ?_
        refine lv_iadd hx hb dX2_length_41 ?_
        obtain rfl := Option.some.inj hf
        exact W.iret hx hb hr (fun t ht hW => ⟨⟨(), rfl, by rw [ht]; exact hP, hD⟩, hS.F ht⟩) hS.2.2 dX2_length_42
      · have hf := ifn hf c_9
        refine lv_bipush (v := (8 : Int32)) hx hb dX2_length_35 (by decide) ?_
        refine lv_goto (tgt := 41) hx hb dX2_length_37 (by decide) ?_
        refine lv_iadd hx hb dX2_length_41 ?_
        obtain rfl := Option.some.inj hf
        exact W.iret hx hb hr (fun t ht hW => ⟨⟨(), rfl, by rw [ht]; exact hP, hD⟩, hS.F ht⟩) hS.2.2 dX2_length_42
    · have hf := ifn hf c_6
      refine lv_iconst (v := (1 : Int32)) hx hb dX2_length_22 (by decide) ?_
      refine lv_goto (tgt := 27) hx hb dX2_length_23 (by decide) ?_
      refine lv_iadd hx hb dX2_length_27 ?_
      refine lv_aload_n hx hb dX2_length_28 rfl (lv_at hl 0 rfl) ?_
      obtain ⟨r_10, hc_11, hf⟩ := obd hf
      refine ct_V (As := []) (rest := [.int (((8 : Int32) + (0 : Int32)) + (1 : Int32))]) (wr := []) (wn := [(ae, .inr (1, [.int ek, .int es, .int ew, .long ev]))]) hfix (cX2_hasVolume_ok l D y ae ek es ew ev _ hc_11) (cwV 0 hts gX2_length_X2_hasVolume rfl rfl rfl (by decide +kernel) ⟨Nat.le_of_ble_eq_true rfl, Nat.le_of_ble_eq_true rfl⟩) E hP hD hS [0] [] [0] rfl rfl rfl rfl (by decide) rfl rfl 0 1 rfl rfl rfl hl.1 rfl (Nat.le_of_ble_eq_true rfl) dX2_length_29 ⟨Nat.zero_le _, Nat.zero_le _⟩ (fun H locs hP hD hS => ?_)
      refine W.eq (g2 := F0 m 32 ls [.int (zb r_10), .int (((8 : Int32) + (0 : Int32)) + (1 : Int32))]) rfl ?_
      refine lv_if_eq (tgt := 40) hx hb dX2_length_32 (by decide) (fun c_12 => ?_) (fun c_12 => ?_)
      · have hf := ifp hf c_12
        refine lv_iconst (v := (0 : Int32)) hx hb dX2_length_40 (by decide) ?_
        refine lv_iadd hx hb dX2_length_41 ?_
        obtain rfl := Option.some.inj hf
        exact W.iret hx hb hr (fun t ht hW => ⟨⟨(), rfl, by rw [ht]; exact hP, hD⟩, hS.F ht⟩) hS.2.2 dX2_length_42
      · have hf := ifn hf c_12
        refine lv_bipush (v := (8 : Int32)) hx hb dX2_length_35 (by decide) ?_
        refine lv_goto (tgt := 41) hx hb dX2_length_37 (by decide) ?_
        refine lv_iadd hx hb dX2_length_41 ?_
        obtain rfl := Option.some.inj hf
        exact W.iret hx hb hr (fun t ht hW => ⟨⟨(), rfl, by rw [ht]; exact hP, hD⟩, hS.F ht⟩) hS.2.2 dX2_length_42
  · have hf := ifn hf c_3
    refine lv_iconst (v := (2 : Int32)) hx hb dX2_length_9 (by decide) ?_
    refine lv_goto (tgt := 14) hx hb dX2_length_10 (by decide) ?_
    refine lv_iadd hx hb dX2_length_14 ?_
    refine lv_aload_n hx hb dX2_length_15 rfl (lv_at hl 0 rfl) ?_
    obtain ⟨r_13, hc_14, hf⟩ := obd hf
    refine ct_V (As := []) (rest := [.int ((8 : Int32) + (2 : Int32))]) (wr := []) (wn := [(ae, .inr (1, [.int ek, .int es, .int ew, .long ev]))]) hfix (cX2_hasWell_ok l D y ae ek es ew ev _ hc_14) (cwV 0 hts gX2_length_X2_hasWell rfl rfl rfl (by decide +kernel) ⟨Nat.le_of_ble_eq_true rfl, Nat.le_of_ble_eq_true rfl⟩) E hP hD hS [0] [] [0] rfl rfl rfl rfl (by decide) rfl rfl 0 1 rfl rfl rfl hl.1 rfl (Nat.le_of_ble_eq_true rfl) dX2_length_16 ⟨Nat.zero_le _, Nat.zero_le _⟩ (fun H locs hP hD hS => ?_)
    refine W.eq (g2 := F0 m 19 ls [.int (zb r_13), .int ((8 : Int32) + (2 : Int32))]) rfl ?_
    refine lv_if_eq (tgt := 26) hx hb dX2_length_19 (by decide) (fun c_15 => ?_) (fun c_15 => ?_)
    · have hf := ifp hf c_15
      refine lv_iconst (v := (0 : Int32)) hx hb dX2_length_26 (by decide) ?_
      refine lv_iadd hx hb dX2_length_27 ?_
      refine lv_aload_n hx hb dX2_length_28 rfl (lv_at hl 0 rfl) ?_
      obtain ⟨r_16, hc_17, hf⟩ := obd hf
      refine ct_V (As := []) (rest := [.int (((8 : Int32) + (2 : Int32)) + (0 : Int32))]) (wr := []) (wn := [(ae, .inr (1, [.int ek, .int es, .int ew, .long ev]))]) hfix (cX2_hasVolume_ok l D y ae ek es ew ev _ hc_17) (cwV 0 hts gX2_length_X2_hasVolume rfl rfl rfl (by decide +kernel) ⟨Nat.le_of_ble_eq_true rfl, Nat.le_of_ble_eq_true rfl⟩) E hP hD hS [0] [] [0] rfl rfl rfl rfl (by decide) rfl rfl 0 1 rfl rfl rfl hl.1 rfl (Nat.le_of_ble_eq_true rfl) dX2_length_29 ⟨Nat.zero_le _, Nat.zero_le _⟩ (fun H locs hP hD hS => ?_)
      refine W.eq (g2 := F0 m 32 ls [.int (zb r_16), .int (((8 : Int32) + (2 : Int32)) + (0 : Int32))]) rfl ?_
      refine lv_if_eq (tgt := 40) hx hb dX2_length_32 (by decide) (fun c_18 => ?_) (fun c_18 => ?_)
      · have hf := ifp hf c_18
        refine lv_iconst (v := (0 : Int32)) hx hb dX2_length_40 (by decide) ?_
        refine lv_iadd hx hb dX2_length_41 ?_
        obtain rfl := Option.some.inj hf
        exact W.iret hx hb hr (fun t ht hW => ⟨⟨(), rfl, by rw [ht]; exact hP, hD⟩, hS.F ht⟩) hS.2.2 dX2_length_42
      · have hf := ifn hf c_18
        refine lv_bipush (v := (8 : Int32)) hx hb dX2_length_35 (by decide) ?_
        refine lv_goto (tgt := 41) hx hb dX2_length_37 (by decide) ?_
        refine lv_iadd hx hb dX2_length_41 ?_
        obtain rfl := Option.some.inj hf
        exact W.iret hx hb hr (fun t ht hW => ⟨⟨(), rfl, by rw [ht]; exact hP, hD⟩, hS.F ht⟩) hS.2.2 dX2_length_42
    · have hf := ifn hf c_15
      refine lv_iconst (v := (1 : Int32)) hx hb dX2_length_22 (by decide) ?_
      refine lv_goto (tgt := 27) hx hb dX2_length_23 (by decide) ?_
      refine lv_iadd hx hb dX2_length_27 ?_
      refine lv_aload_n hx hb dX2_length_28 rfl (lv_at hl 0 rfl) ?_
      obtain ⟨r_19, hc_20, hf⟩ := obd hf
      refine ct_V (As := []) (rest := [.int (((8 : Int32) + (2 : Int32)) + (1 : Int32))]) (wr := []) (wn := [(ae, .inr (1, [.int ek, .int es, .int ew, .long ev]))]) hfix (cX2_hasVolume_ok l D y ae ek es ew ev _ hc_20) (cwV 0 hts gX2_length_X2_hasVolume rfl rfl rfl (by decide +kernel) ⟨Nat.le_of_ble_eq_true rfl, Nat.le_of_ble_eq_true rfl⟩) E hP hD hS [0] [] [0] rfl rfl rfl rfl (by decide) rfl rfl 0 1 rfl rfl rfl hl.1 rfl (Nat.le_of_ble_eq_true rfl) dX2_length_29 ⟨Nat.zero_le _, Nat.zero_le _⟩ (fun H locs hP hD hS => ?_)
      refine W.eq (g2 := F0 m 32 ls [.int (zb r_19), .int (((8 : Int32) + (2 : Int32)) + (1 : Int32))]) rfl ?_
      refine lv_if_eq (tgt := 40) hx hb dX2_length_32 (by decide) (fun c_21 => ?_) (fun c_21 => ?_)
      · have hf := ifp hf c_21
        refine lv_iconst (v := (0 : Int32)) hx hb dX2_length_40 (by decide) ?_
        refine lv_iadd hx hb dX2_length_41 ?_
        obtain rfl := Option.some.inj hf
        exact W.iret hx hb hr (fun t ht hW => ⟨⟨(), rfl, by rw [ht]; exact hP, hD⟩, hS.F ht⟩) hS.2.2 dX2_length_42
      · have hf := ifn hf c_21
        refine lv_bipush (v := (8 : Int32)) hx hb dX2_length_35 (by decide) ?_
        refine lv_goto (tgt := 41) hx hb dX2_length_37 (by decide) ?_
        refine lv_iadd hx hb dX2_length_41 ?_
        obtain rfl := Option.some.inj hf
        exact W.iret hx hb hr (fun t ht hW => ⟨⟨(), rfl, by rw [ht]; exact hP, hD⟩, hS.F ht⟩) hS.2.2 dX2_length_42

def fX2_readFrom (nb : Nat) (bb : Nat → Int32) (p2 : Int32) : Option (Int32 × Int32 × Int32 × Int64) := ((fX0_at nb bb (p2 + (2 : Int32))).bind fun r_1 => ((fX2_hasSample r_1).bind fun r_3 => (if (zb r_3) = 0 then ((fX2_hasSample r_1).bind fun r_6 => (if (zb r_6) = 0 then ((fX2_hasWell r_1).bind fun r_9 => (if (zb r_9) = 0 then ((fX2_hasWell r_1).bind fun r_12 => (if (zb r_12) = 0 then ((fX2_hasVolume r_1).bind fun r_15 => (if (zb r_15) = 0 then some (r_1, (0 : Int32), (0 : Int32), (0 : Int64)) else ((fX0_number nb bb (((p2 + (3 : Int32)) + (0 : Int32)) + (0 : Int32)) (8 : Int32)).bind fun r_18 => some (r_1, (0 : Int32), (0 : Int32), r_18)))) else ((fX2_hasVolume r_1).bind fun r_20 => (if (zb r_20) = 0 then some (r_1, (0 : Int32), (0 : Int32), (0 : Int64)) else ((fX0_number nb bb (((p2 + (3 : Int32)) + (0 : Int32)) + (1 : Int32)) (8 : Int32)).bind fun r_23 => some (r_1, (0 : Int32), (0 : Int32), r_23)))))) else ((fX0_at nb bb ((p2 + (3 : Int32)) + (0 : Int32))).bind fun r_25 => ((fX2_hasWell r_1).bind fun r_27 => (if (zb r_27) = 0 then ((fX2_hasVolume r_1).bind fun r_30 => (if (zb r_30) = 0 then some (r_1, (0 : Int32), r_25, (0 : Int64)) else ((fX0_number nb bb (((p2 + (3 : Int32)) + (0 : Int32)) + (0 : Int32)) (8 : Int32)).bind fun r_33 => some (r_1, (0 : Int32), r_25, r_33)))) else ((fX2_hasVolume r_1).bind fun r_35 => (if (zb r_35) = 0 then some (r_1, (0 : Int32), r_25, (0 : Int64)) else ((fX0_number nb bb (((p2 + (3 : Int32)) + (0 : Int32)) + (1 : Int32)) (8 : Int32)).bind fun r_38 => some (r_1, (0 : Int32), r_25, r_38))))))))) else ((fX2_hasWell r_1).bind fun r_40 => (if (zb r_40) = 0 then ((fX2_hasWell r_1).bind fun r_43 => (if (zb r_43) = 0 then ((fX2_hasVolume r_1).bind fun r_46 => (if (zb r_46) = 0 then some (r_1, (0 : Int32), (0 : Int32), (0 : Int64)) else ((fX0_number nb bb (((p2 + (3 : Int32)) + (2 : Int32)) + (0 : Int32)) (8 : Int32)).bind fun r_49 => some (r_1, (0 : Int32), (0 : Int32), r_49)))) else ((fX2_hasVolume r_1).bind fun r_51 => (if (zb r_51) = 0 then some (r_1, (0 : Int32), (0 : Int32), (0 : Int64)) else ((fX0_number nb bb (((p2 + (3 : Int32)) + (2 : Int32)) + (1 : Int32)) (8 : Int32)).bind fun r_54 => some (r_1, (0 : Int32), (0 : Int32), r_54)))))) else ((fX0_at nb bb ((p2 + (3 : Int32)) + (2 : Int32))).bind fun r_56 => ((fX2_hasWell r_1).bind fun r_58 => (if (zb r_58) = 0 then ((fX2_hasVolume r_1).bind fun r_61 => (if (zb r_61) = 0 then some (r_1, (0 : Int32), r_56, (0 : Int64)) else ((fX0_number nb bb (((p2 + (3 : Int32)) + (2 : Int32)) + (0 : Int32)) (8 : Int32)).bind fun r_64 => some (r_1, (0 : Int32), r_56, r_64)))) else ((fX2_hasVolume r_1).bind fun r_66 => (if (zb r_66) = 0 then some (r_1, (0 : Int32), r_56, (0 : Int64)) else ((fX0_number nb bb (((p2 + (3 : Int32)) + (2 : Int32)) + (1 : Int32)) (8 : Int32)).bind fun r_69 => some (r_1, (0 : Int32), r_56, r_69))))))))))) else ((fX0_number nb bb (p2 + (3 : Int32)) (2 : Int32)).bind fun r_71 => ((fX2_hasSample r_1).bind fun r_73 => (if (zb r_73) = 0 then ((fX2_hasWell r_1).bind fun r_76 => (if (zb r_76) = 0 then ((fX2_hasWell r_1).bind fun r_79 => (if (zb r_79) = 0 then ((fX2_hasVolume r_1).bind fun r_82 => (if (zb r_82) = 0 then some (r_1, (r_71.toInt32), (0 : Int32), (0 : Int64)) else ((fX0_number nb bb (((p2 + (3 : Int32)) + (0 : Int32)) + (0 : Int32)) (8 : Int32)).bind fun r_85 => some (r_1, (r_71.toInt32), (0 : Int32), r_85)))) else ((fX2_hasVolume r_1).bind fun r_87 => (if (zb r_87) = 0 then some (r_1, (r_71.toInt32), (0 : Int32), (0 : Int64)) else ((fX0_number nb bb (((p2 + (3 : Int32)) + (0 : Int32)) + (1 : Int32)) (8 : Int32)).bind fun r_90 => some (r_1, (r_71.toInt32), (0 : Int32), r_90)))))) else ((fX0_at nb bb ((p2 + (3 : Int32)) + (0 : Int32))).bind fun r_92 => ((fX2_hasWell r_1).bind fun r_94 => (if (zb r_94) = 0 then ((fX2_hasVolume r_1).bind fun r_97 => (if (zb r_97) = 0 then some (r_1, (r_71.toInt32), r_92, (0 : Int64)) else ((fX0_number nb bb (((p2 + (3 : Int32)) + (0 : Int32)) + (0 : Int32)) (8 : Int32)).bind fun r_100 => some (r_1, (r_71.toInt32), r_92, r_100)))) else ((fX2_hasVolume r_1).bind fun r_102 => (if (zb r_102) = 0 then some (r_1, (r_71.toInt32), r_92, (0 : Int64)) else ((fX0_number nb bb (((p2 + (3 : Int32)) + (0 : Int32)) + (1 : Int32)) (8 : Int32)).bind fun r_105 => some (r_1, (r_71.toInt32), r_92, r_105))))))))) else ((fX2_hasWell r_1).bind fun r_107 => (if (zb r_107) = 0 then ((fX2_hasWell r_1).bind fun r_110 => (if (zb r_110) = 0 then ((fX2_hasVolume r_1).bind fun r_113 => (if (zb r_113) = 0 then some (r_1, (r_71.toInt32), (0 : Int32), (0 : Int64)) else ((fX0_number nb bb (((p2 + (3 : Int32)) + (2 : Int32)) + (0 : Int32)) (8 : Int32)).bind fun r_116 => some (r_1, (r_71.toInt32), (0 : Int32), r_116)))) else ((fX2_hasVolume r_1).bind fun r_118 => (if (zb r_118) = 0 then some (r_1, (r_71.toInt32), (0 : Int32), (0 : Int64)) else ((fX0_number nb bb (((p2 + (3 : Int32)) + (2 : Int32)) + (1 : Int32)) (8 : Int32)).bind fun r_121 => some (r_1, (r_71.toInt32), (0 : Int32), r_121)))))) else ((fX0_at nb bb ((p2 + (3 : Int32)) + (2 : Int32))).bind fun r_123 => ((fX2_hasWell r_1).bind fun r_125 => (if (zb r_125) = 0 then ((fX2_hasVolume r_1).bind fun r_128 => (if (zb r_128) = 0 then some (r_1, (r_71.toInt32), r_123, (0 : Int64)) else ((fX0_number nb bb (((p2 + (3 : Int32)) + (2 : Int32)) + (0 : Int32)) (8 : Int32)).bind fun r_131 => some (r_1, (r_71.toInt32), r_123, r_131)))) else ((fX2_hasVolume r_1).bind fun r_133 => (if (zb r_133) = 0 then some (r_1, (r_71.toInt32), r_123, (0 : Int64)) else ((fX0_number nb bb (((p2 + (3 : Int32)) + (2 : Int32)) + (1 : Int32)) (8 : Int32)).bind fun r_136 => some (r_1, (r_71.toInt32), r_123, r_136)))))))))))))))

set_option maxHeartbeats 4000000 in
set_option maxRecDepth 100000 in
theorem cX2_readFrom_ok (l : Launch) (D : va_G) (y : Nat → ClassId) (ae : Nat) (ak : Nat) (ar : Nat) (nb : Nat) (bb : Nat → Int32) (ek : Int32) (es : Int32) (ew : Int32) (ev : Int64) (p2 : Int32) (res : Int32 × Int32 × Int32 × Int64) (hf : fX2_readFrom nb bb p2 = some res) : CT l D y yX2_readFrom wsX2_readFrom ({ frames := 2, cells := 0, slots := 0, locals := 46 } : Room) [.ref ae, .ref ak, .int p2] [(ae, .inr (1, [.int ek, .int es, .int ew, .long ev])), (ak, .inr (0, [.ref ar])), (ar, .inl (y 0, nb, .inl bb))] (none) [(ae, .inr (1, [.int res.1, .int res.2.1, .int res.2.2.1, .long res.2.2.2])), (ak, .inr (0, [.ref ar])), (ar, .inl (y 0, nb, .inl bb))] := by
  intro sz
  refine Met.ofW (cc := cX2_readFrom) (maxL := 4) (ret := none) (by decide) rfl ?_
  intro p e s m args below meth c s₁ B hml hv
  obtain ⟨rfl, hsz, hP, hK, hD0, hst, hno⟩ := hv
  have hx := B.exec
  have hb := B.bytes
  have hr := B.returns
  have hts := atoms_spec (ws := wsX2_readFrom) B.pre
  have hown : s.vm.findClass RX2 = some m.cls := findClass_of_methodNamed B.named
  have hlocks := B.notSynchronized
  subst hsz
  have hD := hD0.self (sz := s.heap.size)
  generalize hAe : va_A [(ae, .inr (1, [.int ek, .int es, .int ew, .long ev])), (ak, .inr (0, [.ref ar])), (ar, .inl (y 0, nb, .inl bb))] s.heap.size = A at hD hst ⊢
  have hA : ∀ q : Nat, s.heap.size ≤ q → A q := fun q h => by rw [← hAe]; exact Or.inr h
  have hS : va_S A s.heap s.heap [] := va_S.rf
  have E : Ev D y A s := ⟨hK, hst, hno, hA⟩
  have hfix : CallFix p m c cX2_readFrom 4 s _ wsX2_readFrom RX2 := ⟨hx, hb, hml, hown, hts⟩
  have hP : va_P D vwCl [(ae, .inr (1, [.int ek, .int es, .int ew, .long ev])), (ak, .inr (0, [.ref ar])), (ar, .inl (y 0, nb, .inl bb))] s.heap := hP
  have iX2 : ∀ w ∈ wsX20, w ∈ wsX2_readFrom := by decide +kernel
  have hl := lv_entry ([.ref ae, .ref ak, .int p2]) (n := 4) (Nat.le_of_ble_eq_true rfl)
  rw [lg_entry_eq]
  generalize (lg_sl ([.ref ae, .ref ak, .int p2]) ++ List.replicate (4 - (lg_sl ([.ref ae, .ref ak, .int p2])).length) Slot.unset).toArray = ls at hl ⊢
  have hl : lv_has ls 4 [(0, .ref ae), (1, .ref ak), (2, .int p2)] := hl
  unfold fX2_readFrom at hf
  refine lv_aload_n hx hb dX2_readFrom_0 rfl (lv_at hl 0 rfl) ?_
  refine lv_aload_n hx hb dX2_readFrom_1 rfl (lv_at hl 1 rfl) ?_
  refine lv_iload_n hx hb dX2_readFrom_2 rfl (lv_at hl 2 rfl) ?_
  refine lv_iconst (v := (2 : Int32)) hx hb dX2_readFrom_3 (by decide) ?_
  refine lv_iadd hx hb dX2_readFrom_4 ?_
  obtain ⟨r_1, hc_2, hf⟩ := obd hf
  refine ct_V (As := [.int (p2 + (2 : Int32))]) (rest := [.ref ae]) (wr := [(ae, .inr (1, [.int ek, .int es, .int ew, .long ev]))]) (wn := [(ae, .inr (1, [.int ek, .int es, .int ew, .long ev])), (ak, .inr (0, [.ref ar])), (ar, .inl (y 0, nb, .inl bb))]) hfix (cX0_at_ok l D y ak ar nb bb (p2 + (2 : Int32)) _ hc_2) (cwV 1 hts gX2_readFrom_X0_at rfl rfl rfl (by decide +kernel) ⟨Nat.le_of_ble_eq_true rfl, Nat.le_of_ble_eq_true rfl⟩) E hP hD hS [1, 2] [0] [0, 1, 2] rfl rfl rfl rfl (by decide) rfl rfl 0 0 rfl rfl rfl hl.1 rfl (Nat.le_of_ble_eq_true rfl) dX2_readFrom_5 ⟨Nat.zero_le _, Nat.zero_le _⟩ (fun H locs hP hD hS => ?_)
  refine W.eq (g2 := F0 m 8 ls [.int r_1, .ref ae]) rfl ?_
  refine va_put (D := D) (ci := 1) (v := .int r_1) (ty := .int) (C := RX2) (T := TX2) (N := 4) hx hb hts iX2 tyX2 tyX2_ok nmX2 hown hK hP hD hS 0 rfl rfl 0 (by decide) (hts (.fieldLink RX2 9 "SampleTracker$Entry" "kind" "I") (by decide +kernel)) (fun _ h9 => h9) rfl (by decide +kernel) rfl rfl (Nat.le_of_ble_eq_true rfl) dX2_readFrom_8 (fun H locs hP hD hS => ?_)
  have hP : va_P D vwCl [(ae, .inr (1, [.int r_1, .int es, .int ew, .long ev])), (ak, .inr (0, [.ref ar])), (ar, .inl (y 0, nb, .inl bb))] H := hP
  have hD : va_D A [(ae, .inr (1, [.int r_1, .int es, .int ew, .long ev])), (ak, .inr (0, [.ref ar])), (ar, .inl (y 0, nb, .inl bb))] := hD
  refine lv_iload_n hx hb dX2_readFrom_11 rfl (lv_at hl 2 rfl) ?_
  refine lv_iconst (v := (3 : Int32)) hx hb dX2_readFrom_12 (by decide) ?_
  refine lv_iadd hx hb dX2_readFrom_13 ?_
  refine lv_istore_n (lv' := [(3, .int (p2 + (3 : Int32))), (0, .ref ae), (1, .ref ak), (2, .int p2)]) hx hb dX2_readFrom_14 rfl hl (by decide) rfl (fun ls hl => ?_)
  refine lv_aload_n hx hb dX2_readFrom_15 rfl (lv_at hl 1 rfl) ?_
  refine lv_aload_n hx hb dX2_readFrom_16 rfl (lv_at hl 1 rfl) ?_
  obtain ⟨r_3, hc_4, hf⟩ := obd hf
  refine ct_V (As := []) (rest := [.ref ae]) (wr := [(ak, .inr (0, [.ref ar])), (ar, .inl (y 0, nb, .inl bb))]) (wn := [(ae, .inr (1, [.int r_1, .int es, .int ew, .long ev])), (ak, .inr (0, [.ref ar])), (ar, .inl (y 0, nb, .inl bb))]) hfix (cX2_hasSample_ok l D y ae r_1 es ew ev _ hc_4) (cwV 0 hts gX2_readFrom_X2_hasSample rfl rfl rfl (by decide +kernel) ⟨Nat.le_of_ble_eq_true rfl, Nat.le_of_ble_eq_true rfl⟩) E hP hD hS [0] [1, 2] [2, 0, 1] rfl rfl rfl rfl (by decide) rfl rfl 0 1 rfl rfl rfl hl.1 rfl (Nat.le_of_ble_eq_true rfl) dX2_readFrom_17 ⟨Nat.zero_le _, Nat.zero_le _⟩ (fun H locs hP hD hS => ?_)
  refine W.eq (g2 := F0 m 20 ls [.int (zb r_3), .ref ae]) rfl ?_
  refine lv_if_eq (tgt := 33) hx hb dX2_readFrom_20 (by decide) (fun c_5 => ?_) (fun c_5 => ?_)
  · have hf := ifp hf c_5
    refine lv_iconst (v := (0 : Int32)) hx hb dX2_readFrom_33 (by decide) ?_
    refine va_put (D := D) (ci := 1) (v := .int (0 : Int32)) (ty := .int) (C := RX2) (T := TX2) (N := 4) hx hb hts iX2 tyX2 tyX2_ok nmX2 hown hK hP hD hS 0 rfl rfl 1 (by decide) (hts (.fieldLink RX2 15 "SampleTracker$Entry" "sample" "I") (by decide +kernel)) (fun _ h9 => h9) rfl (by decide +kernel) rfl rfl (Nat.le_of_ble_eq_true rfl) dX2_readFrom_34 (fun H locs hP hD hS => ?_)
    have hP : va_P D vwCl [(ae, .inr (1, [.int r_1, .int (0 : Int32), .int ew, .long ev])), (ak, .inr (0, [.ref ar])), (ar, .inl (y 0, nb, .inl bb))] H := hP
    have hD : va_D A [(ae, .inr (1, [.int r_1, .int (0 : Int32), .int ew, .long ev])), (ak, .inr (0, [.ref ar])), (ar, .inl (y 0, nb, .inl bb))] := hD
    refine lv_iload_n hx hb dX2_readFrom_37 rfl (lv_at hl 0 rfl) ?_
    refine lv_aload_n hx hb dX2_readFrom_38 rfl (lv_at hl 1 rfl) ?_
    obtain ⟨r_6, hc_7, hf⟩ := obd hf
    refine ct_V (As := []) (rest := [.int (p2 + (3 : Int32))]) (wr := [(ak, .inr (0, [.ref ar])), (ar, .inl (y 0, nb, .inl bb))]) (wn := [(ae, .inr (1, [.int r_1, .int (0 : Int32), .int ew, .long ev])), (ak, .inr (0, [.ref ar])), (ar, .inl (y 0, nb, .inl bb))]) hfix (cX2_hasSample_ok l D y ae r_1 (0 : Int32) ew ev _ hc_7) (cwV 0 hts gX2_readFrom_X2_hasSample rfl rfl rfl (by decide +kernel) ⟨Nat.le_of_ble_eq_true rfl, Nat.le_of_ble_eq_true rfl⟩) E hP hD hS [0] [1, 2] [2, 0, 1] rfl rfl rfl rfl (by decide) rfl rfl 0 1 rfl rfl rfl hl.1 rfl (Nat.le_of_ble_eq_true rfl) dX2_readFrom_39 ⟨Nat.zero_le _, Nat.zero_le _⟩ (fun H locs hP hD hS => ?_)
    refine W.eq (g2 := F0 m 42 ls [.int (zb r_6), .int (p2 + (3 : Int32))]) rfl ?_
    refine lv_if_eq (tgt := 49) hx hb dX2_readFrom_42 (by decide) (fun c_8 => ?_) (fun c_8 => ?_)
    · have hf := ifp hf c_8
      refine lv_iconst (v := (0 : Int32)) hx hb dX2_readFrom_49 (by decide) ?_
      refine lv_iadd hx hb dX2_readFrom_50 ?_
      refine lv_istore_n (lv' := [(3, .int ((p2 + (3 : Int32)) + (0 : Int32))), (0, .ref ae), (1, .ref ak), (2, .int p2)]) hx hb dX2_readFrom_51 rfl hl (by decide) rfl (fun ls hl => ?_)
      refine lv_aload_n hx hb dX2_readFrom_52 rfl (lv_at hl 1 rfl) ?_
      refine lv_aload_n hx hb dX2_readFrom_53 rfl (lv_at hl 1 rfl) ?_
      obtain ⟨r_9, hc_10, hf⟩ := obd hf
      refine ct_V (As := []) (rest := [.ref ae]) (wr := [(ak, .inr (0, [.ref ar])), (ar, .inl (y 0, nb, .inl bb))]) (wn := [(ae, .inr (1, [.int r_1, .int (0 : Int32), .int ew, .long ev])), (ak, .inr (0, [.ref ar])), (ar, .inl (y 0, nb, .inl bb))]) hfix (cX2_hasWell_ok l D y ae r_1 (0 : Int32) ew ev _ hc_10) (cwV 0 hts gX2_readFrom_X2_hasWell rfl rfl rfl (by decide +kernel) ⟨Nat.le_of_ble_eq_true rfl, Nat.le_of_ble_eq_true rfl⟩) E hP hD hS [0] [1, 2] [2, 0, 1] rfl rfl rfl rfl (by decide) rfl rfl 0 1 rfl rfl rfl hl.1 rfl (Nat.le_of_ble_eq_true rfl) dX2_readFrom_54 ⟨Nat.zero_le _, Nat.zero_le _⟩ (fun H locs hP hD hS => ?_)
      refine W.eq (g2 := F0 m 57 ls [.int (zb r_9), .ref ae]) rfl ?_
      refine lv_if_eq (tgt := 68) hx hb dX2_readFrom_57 (by decide) (fun c_11 => ?_) (fun c_11 => ?_)
      · have hf := ifp hf c_11
        refine lv_iconst (v := (0 : Int32)) hx hb dX2_readFrom_68 (by decide) ?_
        refine va_put (D := D) (ci := 1) (v := .int (0 : Int32)) (ty := .int) (C := RX2) (T := TX2) (N := 4) hx hb hts iX2 tyX2 tyX2_ok nmX2 hown hK hP hD hS 0 rfl rfl 2 (by decide) (hts (.fieldLink RX2 18 "SampleTracker$Entry" "well" "I") (by decide +kernel)) (fun _ h9 => h9) rfl (by decide +kernel) rfl rfl (Nat.le_of_ble_eq_true rfl) dX2_readFrom_69 (fun H locs hP hD hS => ?_)
        have hP : va_P D vwCl [(ae, .inr (1, [.int r_1, .int (0 : Int32), .int (0 : Int32), .long ev])), (ak, .inr (0, [.ref ar])), (ar, .inl (y 0, nb, .inl bb))] H := hP
        have hD : va_D A [(ae, .inr (1, [.int r_1, .int (0 : Int32), .int (0 : Int32), .long ev])), (ak, .inr (0, [.ref ar])), (ar, .inl (y 0, nb, .inl bb))] := hD
        refine lv_iload_n hx hb dX2_readFrom_72 rfl (lv_at hl 0 rfl) ?_
        refine lv_aload_n hx hb dX2_readFrom_73 rfl (lv_at hl 1 rfl) ?_
        obtain ⟨r_12, hc_13, hf⟩ := obd hf
        refine ct_V (As := []) (rest := [.int ((p2 + (3 : Int32)) + (0 : Int32))]) (wr := [(ak, .inr (0, [.ref ar])), (ar, .inl (y 0, nb, .inl bb))]) (wn := [(ae, .inr (1, [.int r_1, .int (0 : Int32), .int (0 : Int32), .long ev])), (ak, .inr (0, [.ref ar])), (ar, .inl (y 0, nb, .inl bb))]) hfix (cX2_hasWell_ok l D y ae r_1 (0 : Int32) (0 : Int32) ev _ hc_13) (cwV 0 hts gX2_readFrom_X2_hasWell rfl rfl rfl (by decide +kernel) ⟨Nat.le_of_ble_eq_true rfl, Nat.le_of_ble_eq_true rfl⟩) E hP hD hS [0] [1, 2] [2, 0, 1] rfl rfl rfl rfl (by decide) rfl rfl 0 1 rfl rfl rfl hl.1 rfl (Nat.le_of_ble_eq_true rfl) dX2_readFrom_74 ⟨Nat.zero_le _, Nat.zero_le _⟩ (fun H locs hP hD hS => ?_)
        refine W.eq (g2 := F0 m 77 ls [.int (zb r_12), .int ((p2 + (3 : Int32)) + (0 : Int32))]) rfl ?_
        refine lv_if_eq (tgt := 84) hx hb dX2_readFrom_77 (by decide) (fun c_14 => ?_) (fun c_14 => ?_)
        · have hf := ifp hf c_14
          refine lv_iconst (v := (0 : Int32)) hx hb dX2_readFrom_84 (by decide) ?_
          refine lv_iadd hx hb dX2_readFrom_85 ?_
          refine lv_istore_n (lv' := [(3, .int (((p2 + (3 : Int32)) + (0 : Int32)) + (0 : Int32))), (0, .ref ae), (1, .ref ak), (2, .int p2)]) hx hb dX2_readFrom_86 rfl hl (by decide) rfl (fun ls hl => ?_)
          refine lv_aload_n hx hb dX2_readFrom_87 rfl (lv_at hl 1 rfl) ?_
          refine lv_aload_n hx hb dX2_readFrom_88 rfl (lv_at hl 1 rfl) ?_
          obtain ⟨r_15, hc_16, hf⟩ := obd hf
          refine ct_V (As := []) (rest := [.ref ae]) (wr := [(ak, .inr (0, [.ref ar])), (ar, .inl (y 0, nb, .inl bb))]) (wn := [(ae, .inr (1, [.int r_1, .int (0 : Int32), .int (0 : Int32), .long ev])), (ak, .inr (0, [.ref ar])), (ar, .inl (y 0, nb, .inl bb))]) hfix (cX2_hasVolume_ok l D y ae r_1 (0 : Int32) (0 : Int32) ev _ hc_16) (cwV 0 hts gX2_readFrom_X2_hasVolume rfl rfl rfl (by decide +kernel) ⟨Nat.le_of_ble_eq_true rfl, Nat.le_of_ble_eq_true rfl⟩) E hP hD hS [0] [1, 2] [2, 0, 1] rfl rfl rfl rfl (by decide) rfl rfl 0 1 rfl rfl rfl hl.1 rfl (Nat.le_of_ble_eq_true rfl) dX2_readFrom_89 ⟨Nat.zero_le _, Nat.zero_le _⟩ (fun H locs hP hD hS => ?_)
          refine W.eq (g2 := F0 m 92 ls [.int (zb r_15), .ref ae]) rfl ?_
          refine lv_if_eq (tgt := 105) hx hb dX2_readFrom_92 (by decide) (fun c_17 => ?_) (fun c_17 => ?_)
          · have hf := ifp hf c_17
            refine lv_lconst (v := (0 : Int64)) hx hb dX2_readFrom_105 (by decide) ?_
            refine va_put (D := D) (ci := 1) (v := .long (0 : Int64)) (ty := .long) (C := RX2) (T := TX2) (N := 4) hx hb hts iX2 tyX2 tyX2_ok nmX2 hown hK hP hD hS 0 rfl rfl 3 (by decide) (hts (.fieldLink RX2 21 "SampleTracker$Entry" "volume" "J") (by decide +kernel)) (fun _ h9 => h9) rfl (by decide +kernel) rfl rfl (Nat.le_of_ble_eq_true rfl) dX2_readFrom_106 (fun H locs hP hD hS => ?_)
            have hP : va_P D vwCl [(ae, .inr (1, [.int r_1, .int (0 : Int32), .int (0 : Int32), .long (0 : Int64)])), (ak, .inr (0, [.ref ar])), (ar, .inl (y 0, nb, .inl bb))] H := hP
            have hD : va_D A [(ae, .inr (1, [.int r_1, .int (0 : Int32), .int (0 : Int32), .long (0 : Int64)])), (ak, .inr (0, [.ref ar])), (ar, .inl (y 0, nb, .inl bb))] := hD
            obtain rfl := Option.some.inj hf
            exact W.vret hx hb hr (fun t ht hW => ⟨⟨(), rfl, by rw [ht]; exact hP, hD⟩, hS.F ht⟩) hS.2.2 dX2_readFrom_109
          · have hf := ifn hf c_17
            refine lv_aload_n hx hb dX2_readFrom_95 rfl (lv_at hl 2 rfl) ?_
            refine lv_iload_n hx hb dX2_readFrom_96 rfl (lv_at hl 0 rfl) ?_
            refine lv_bipush (v := (8 : Int32)) hx hb dX2_readFrom_97 (by decide) ?_
            obtain ⟨r_18, hc_19, hf⟩ := obd hf
            refine ct_V (As := [.int (((p2 + (3 : Int32)) + (0 : Int32)) + (0 : Int32)), .int (8 : Int32)]) (rest := [.ref ae]) (wr := [(ae, .inr (1, [.int r_1, .int (0 : Int32), .int (0 : Int32), .long ev]))]) (wn := [(ae, .inr (1, [.int r_1, .int (0 : Int32), .int (0 : Int32), .long ev])), (ak, .inr (0, [.ref ar])), (ar, .inl (y 0, nb, .inl bb))]) hfix (cX0_number_ok l D y ak ar nb bb (((p2 + (3 : Int32)) + (0 : Int32)) + (0 : Int32)) (8 : Int32) _ hc_19) (cwV 2 hts gX2_readFrom_X0_number rfl rfl rfl (by decide +kernel) ⟨Nat.le_of_ble_eq_true rfl, Nat.le_of_ble_eq_true rfl⟩) E hP hD hS [1, 2] [0] [0, 1, 2] rfl rfl rfl rfl (by decide) rfl rfl 0 0 rfl rfl rfl hl.1 rfl (Nat.le_of_ble_eq_true rfl) dX2_readFrom_99 ⟨Nat.zero_le _, Nat.zero_le _⟩ (fun H locs hP hD hS => ?_)
            refine W.eq (g2 := F0 m 102 ls [.long r_18, .ref ae]) rfl ?_
            refine lv_goto (tgt := 106) hx hb dX2_readFrom_102 (by decide) ?_
            refine va_put (D := D) (ci := 1) (v := .long r_18) (ty := .long) (C := RX2) (T := TX2) (N := 4) hx hb hts iX2 tyX2 tyX2_ok nmX2 hown hK hP hD hS 0 rfl rfl 3 (by decide) (hts (.fieldLink RX2 21 "SampleTracker$Entry" "volume" "J") (by decide +kernel)) (fun _ h9 => h9) rfl (by decide +kernel) rfl rfl (Nat.le_of_ble_eq_true rfl) dX2_readFrom_106 (fun H locs hP hD hS => ?_)
            have hP : va_P D vwCl [(ae, .inr (1, [.int r_1, .int (0 : Int32), .int (0 : Int32), .long r_18])), (ak, .inr (0, [.ref ar])), (ar, .inl (y 0, nb, .inl bb))] H := hP
            have hD : va_D A [(ae, .inr (1, [.int r_1, .int (0 : Int32), .int (0 : Int32), .long r_18])), (ak, .inr (0, [.ref ar])), (ar, .inl (y 0, nb, .inl bb))] := hD
            obtain rfl := Option.some.inj hf
            exact W.vret hx hb hr (fun t ht hW => ⟨⟨(), rfl, by rw [ht]; exact hP, hD⟩, hS.F ht⟩) hS.2.2 dX2_readFrom_109
        · have hf := ifn hf c_14
          refine lv_iconst (v := (1 : Int32)) hx hb dX2_readFrom_80 (by decide) ?_
          refine lv_goto (tgt := 85) hx hb dX2_readFrom_81 (by decide) ?_
          refine lv_iadd hx hb dX2_readFrom_85 ?_
          refine lv_istore_n (lv' := [(3, .int (((p2 + (3 : Int32)) + (0 : Int32)) + (1 : Int32))), (0, .ref ae), (1, .ref ak), (2, .int p2)]) hx hb dX2_readFrom_86 rfl hl (by decide) rfl (fun ls hl => ?_)
          refine lv_aload_n hx hb dX2_readFrom_87 rfl (lv_at hl 1 rfl) ?_
          refine lv_aload_n hx hb dX2_readFrom_88 rfl (lv_at hl 1 rfl) ?_
          obtain ⟨r_20, hc_21, hf⟩ := obd hf
          refine ct_V (As := []) (rest := [.ref ae]) (wr := [(ak, .inr (0, [.ref ar])), (ar, .inl (y 0, nb, .inl bb))]) (wn := [(ae, .inr (1, [.int r_1, .int (0 : Int32), .int (0 : Int32), .long ev])), (ak, .inr (0, [.ref ar])), (ar, .inl (y 0, nb, .inl bb))]) hfix (cX2_hasVolume_ok l D y ae r_1 (0 : Int32) (0 : Int32) ev _ hc_21) (cwV 0 hts gX2_readFrom_X2_hasVolume rfl rfl rfl (by decide +kernel) ⟨Nat.le_of_ble_eq_true rfl, Nat.le_of_ble_eq_true rfl⟩) E hP hD hS [0] [1, 2] [2, 0, 1] rfl rfl rfl rfl (by decide) rfl rfl 0 1 rfl rfl rfl hl.1 rfl (Nat.le_of_ble_eq_true rfl) dX2_readFrom_89 ⟨Nat.zero_le _, Nat.zero_le _⟩ (fun H locs hP hD hS => ?_)
          refine W.eq (g2 := F0 m 92 ls [.int (zb r_20), .ref ae]) rfl ?_
          refine lv_if_eq (tgt := 105) hx hb dX2_readFrom_92 (by decide) (fun c_22 => ?_) (fun c_22 => ?_)
          · have hf := ifp hf c_22
            refine lv_lconst (v := (0 : Int64)) hx hb dX2_readFrom_105 (by decide) ?_
            refine va_put (D := D) (ci := 1) (v := .long (0 : Int64)) (ty := .long) (C := RX2) (T := TX2) (N := 4) hx hb hts iX2 tyX2 tyX2_ok nmX2 hown hK hP hD hS 0 rfl rfl 3 (by decide) (hts (.fieldLink RX2 21 "SampleTracker$Entry" "volume" "J") (by decide +kernel)) (fun _ h9 => h9) rfl (by decide +kernel) rfl rfl (Nat.le_of_ble_eq_true rfl) dX2_readFrom_106 (fun H locs hP hD hS => ?_)
            have hP : va_P D vwCl [(ae, .inr (1, [.int r_1, .int (0 : Int32), .int (0 : Int32), .long (0 : Int64)])), (ak, .inr (0, [.ref ar])), (ar, .inl (y 0, nb, .inl bb))] H := hP
            have hD : va_D A [(ae, .inr (1, [.int r_1, .int (0 : Int32), .int (0 : Int32), .long (0 : Int64)])), (ak, .inr (0, [.ref ar])), (ar, .inl (y 0, nb, .inl bb))] := hD
            obtain rfl := Option.some.inj hf
            exact W.vret hx hb hr (fun t ht hW => ⟨⟨(), rfl, by rw [ht]; exact hP, hD⟩, hS.F ht⟩) hS.2.2 dX2_readFrom_109
          · have hf := ifn hf c_22
            refine lv_aload_n hx hb dX2_readFrom_95 rfl (lv_at hl 2 rfl) ?_
            refine lv_iload_n hx hb dX2_readFrom_96 rfl (lv_at hl 0 rfl) ?_
            refine lv_bipush (v := (8 : Int32)) hx hb dX2_readFrom_97 (by decide) ?_
            obtain ⟨r_23, hc_24, hf⟩ := obd hf
            refine ct_V (As := [.int (((p2 + (3 : Int32)) + (0 : Int32)) + (1 : Int32)), .int (8 : Int32)]) (rest := [.ref ae]) (wr := [(ae, .inr (1, [.int r_1, .int (0 : Int32), .int (0 : Int32), .long ev]))]) (wn := [(ae, .inr (1, [.int r_1, .int (0 : Int32), .int (0 : Int32), .long ev])), (ak, .inr (0, [.ref ar])), (ar, .inl (y 0, nb, .inl bb))]) hfix (cX0_number_ok l D y ak ar nb bb (((p2 + (3 : Int32)) + (0 : Int32)) + (1 : Int32)) (8 : Int32) _ hc_24) (cwV 2 hts gX2_readFrom_X0_number rfl rfl rfl (by decide +kernel) ⟨Nat.le_of_ble_eq_true rfl, Nat.le_of_ble_eq_true rfl⟩) E hP hD hS [1, 2] [0] [0, 1, 2] rfl rfl rfl rfl (by decide) rfl rfl 0 0 rfl rfl rfl hl.1 rfl (Nat.le_of_ble_eq_true rfl) dX2_readFrom_99 ⟨Nat.zero_le _, Nat.zero_le _⟩ (fun H locs hP hD hS => ?_)
            refine W.eq (g2 := F0 m 102 ls [.long r_23, .ref ae]) rfl ?_
            refine lv_goto (tgt := 106) hx hb dX2_readFrom_102 (by decide) ?_
            refine va_put (D := D) (ci := 1) (v := .long r_23) (ty := .long) (C := RX2) (T := TX2) (N := 4) hx hb hts iX2 tyX2 tyX2_ok nmX2 hown hK hP hD hS 0 rfl rfl 3 (by decide) (hts (.fieldLink RX2 21 "SampleTracker$Entry" "volume" "J") (by decide +kernel)) (fun _ h9 => h9) rfl (by decide +kernel) rfl rfl (Nat.le_of_ble_eq_true rfl) dX2_readFrom_106 (fun H locs hP hD hS => ?_)
            have hP : va_P D vwCl [(ae, .inr (1, [.int r_1, .int (0 : Int32), .int (0 : Int32), .long r_23])), (ak, .inr (0, [.ref ar])), (ar, .inl (y 0, nb, .inl bb))] H := hP
            have hD : va_D A [(ae, .inr (1, [.int r_1, .int (0 : Int32), .int (0 : Int32), .long r_23])), (ak, .inr (0, [.ref ar])), (ar, .inl (y 0, nb, .inl bb))] := hD
            obtain rfl := Option.some.inj hf
            exact W.vret hx hb hr (fun t ht hW => ⟨⟨(), rfl, by rw [ht]; exact hP, hD⟩, hS.F ht⟩) hS.2.2 dX2_readFrom_109
      · have hf := ifn hf c_11
        refine lv_aload_n hx hb dX2_readFrom_60 rfl (lv_at hl 2 rfl) ?_
        refine lv_iload_n hx hb dX2_readFrom_61 rfl (lv_at hl 0 rfl) ?_
        obtain ⟨r_25, hc_26, hf⟩ := obd hf
        refine ct_V (As := [.int ((p2 + (3 : Int32)) + (0 : Int32))]) (rest := [.ref ae]) (wr := [(ae, .inr (1, [.int r_1, .int (0 : Int32), .int ew, .long ev]))]) (wn := [(ae, .inr (1, [.int r_1, .int (0 : Int32), .int ew, .long ev])), (ak, .inr (0, [.ref ar])), (ar, .inl (y 0, nb, .inl bb))]) hfix (cX0_at_ok l D y ak ar nb bb ((p2 + (3 : Int32)) + (0 : Int32)) _ hc_26) (cwV 1 hts gX2_readFrom_X0_at rfl rfl rfl (by decide +kernel) ⟨Nat.le_of_ble_eq_true rfl, Nat.le_of_ble_eq_true rfl⟩) E hP hD hS [1, 2] [0] [0, 1, 2] rfl rfl rfl rfl (by decide) rfl rfl 0 0 rfl rfl rfl hl.1 rfl (Nat.le_of_ble_eq_true rfl) dX2_readFrom_62 ⟨Nat.zero_le _, Nat.zero_le _⟩ (fun H locs hP hD hS => ?_)
        refine W.eq (g2 := F0 m 65 ls [.int r_25, .ref ae]) rfl ?_
        refine lv_goto (tgt := 69) hx hb dX2_readFrom_65 (by decide) ?_
        refine va_put (D := D) (ci := 1) (v := .int r_25) (ty := .int) (C := RX2) (T := TX2) (N := 4) hx hb hts iX2 tyX2 tyX2_ok nmX2 hown hK hP hD hS 0 rfl rfl 2 (by decide) (hts (.fieldLink RX2 18 "SampleTracker$Entry" "well" "I") (by decide +kernel)) (fun _ h9 => h9) rfl (by decide +kernel) rfl rfl (Nat.le_of_ble_eq_true rfl) dX2_readFrom_69 (fun H locs hP hD hS => ?_)
        have hP : va_P D vwCl [(ae, .inr (1, [.int r_1, .int (0 : Int32), .int r_25, .long ev])), (ak, .inr (0, [.ref ar])), (ar, .inl (y 0, nb, .inl bb))] H := hP
        have hD : va_D A [(ae, .inr (1, [.int r_1, .int (0 : Int32), .int r_25, .long ev])), (ak, .inr (0, [.ref ar])), (ar, .inl (y 0, nb, .inl bb))] := hD
        refine lv_iload_n hx hb dX2_readFrom_72 rfl (lv_at hl 0 rfl) ?_
        refine lv_aload_n hx hb dX2_readFrom_73 rfl (lv_at hl 1 rfl) ?_
        obtain ⟨r_27, hc_28, hf⟩ := obd hf
        refine ct_V (As := []) (rest := [.int ((p2 + (3 : Int32)) + (0 : Int32))]) (wr := [(ak, .inr (0, [.ref ar])), (ar, .inl (y 0, nb, .inl bb))]) (wn := [(ae, .inr (1, [.int r_1, .int (0 : Int32), .int r_25, .long ev])), (ak, .inr (0, [.ref ar])), (ar, .inl (y 0, nb, .inl bb))]) hfix (cX2_hasWell_ok l D y ae r_1 (0 : Int32) r_25 ev _ hc_28) (cwV 0 hts gX2_readFrom_X2_hasWell rfl rfl rfl (by decide +kernel) ⟨Nat.le_of_ble_eq_true rfl, Nat.le_of_ble_eq_true rfl⟩) E hP hD hS [0] [1, 2] [2, 0, 1] rfl rfl rfl rfl (by decide) rfl rfl 0 1 rfl rfl rfl hl.1 rfl (Nat.le_of_ble_eq_true rfl) dX2_readFrom_74 ⟨Nat.zero_le _, Nat.zero_le _⟩ (fun H locs hP hD hS => ?_)
        refine W.eq (g2 := F0 m 77 ls [.int (zb r_27), .int ((p2 + (3 : Int32)) + (0 : Int32))]) rfl ?_
        refine lv_if_eq (tgt := 84) hx hb dX2_readFrom_77 (by decide) (fun c_29 => ?_) (fun c_29 => ?_)
        · have hf := ifp hf c_29
          refine lv_iconst (v := (0 : Int32)) hx hb dX2_readFrom_84 (by decide) ?_
          refine lv_iadd hx hb dX2_readFrom_85 ?_
          refine lv_istore_n (lv' := [(3, .int (((p2 + (3 : Int32)) + (0 : Int32)) + (0 : Int32))), (0, .ref ae), (1, .ref ak), (2, .int p2)]) hx hb dX2_readFrom_86 rfl hl (by decide) rfl (fun ls hl => ?_)
          refine lv_aload_n hx hb dX2_readFrom_87 rfl (lv_at hl 1 rfl) ?_
          refine lv_aload_n hx hb dX2_readFrom_88 rfl (lv_at hl 1 rfl) ?_
          obtain ⟨r_30, hc_31, hf⟩ := obd hf
          refine ct_V (As := []) (rest := [.ref ae]) (wr := [(ak, .inr (0, [.ref ar])), (ar, .inl (y 0, nb, .inl bb))]) (wn := [(ae, .inr (1, [.int r_1, .int (0 : Int32), .int r_25, .long ev])), (ak, .inr (0, [.ref ar])), (ar, .inl (y 0, nb, .inl bb))]) hfix (cX2_hasVolume_ok l D y ae r_1 (0 : Int32) r_25 ev _ hc_31) (cwV 0 hts gX2_readFrom_X2_hasVolume rfl rfl rfl (by decide +kernel) ⟨Nat.le_of_ble_eq_true rfl, Nat.le_of_ble_eq_true rfl⟩) E hP hD hS [0] [1, 2] [2, 0, 1] rfl rfl rfl rfl (by decide) rfl rfl 0 1 rfl rfl rfl hl.1 rfl (Nat.le_of_ble_eq_true rfl) dX2_readFrom_89 ⟨Nat.zero_le _, Nat.zero_le _⟩ (fun H locs hP hD hS => ?_)
          refine W.eq (g2 := F0 m 92 ls [.int (zb r_30), .ref ae]) rfl ?_
          refine lv_if_eq (tgt := 105) hx hb dX2_readFrom_92 (by decide) (fun c_32 => ?_) (fun c_32 => ?_)
          · have hf := ifp hf c_32
            refine lv_lconst (v := (0 : Int64)) hx hb dX2_readFrom_105 (by decide) ?_
            refine va_put (D := D) (ci := 1) (v := .long (0 : Int64)) (ty := .long) (C := RX2) (T := TX2) (N := 4) hx hb hts iX2 tyX2 tyX2_ok nmX2 hown hK hP hD hS 0 rfl rfl 3 (by decide) (hts (.fieldLink RX2 21 "SampleTracker$Entry" "volume" "J") (by decide +kernel)) (fun _ h9 => h9) rfl (by decide +kernel) rfl rfl (Nat.le_of_ble_eq_true rfl) dX2_readFrom_106 (fun H locs hP hD hS => ?_)
            have hP : va_P D vwCl [(ae, .inr (1, [.int r_1, .int (0 : Int32), .int r_25, .long (0 : Int64)])), (ak, .inr (0, [.ref ar])), (ar, .inl (y 0, nb, .inl bb))] H := hP
            have hD : va_D A [(ae, .inr (1, [.int r_1, .int (0 : Int32), .int r_25, .long (0 : Int64)])), (ak, .inr (0, [.ref ar])), (ar, .inl (y 0, nb, .inl bb))] := hD
            obtain rfl := Option.some.inj hf
            exact W.vret hx hb hr (fun t ht hW => ⟨⟨(), rfl, by rw [ht]; exact hP, hD⟩, hS.F ht⟩) hS.2.2 dX2_readFrom_109
          · have hf := ifn hf c_32
            refine lv_aload_n hx hb dX2_readFrom_95 rfl (lv_at hl 2 rfl) ?_
            refine lv_iload_n hx hb dX2_readFrom_96 rfl (lv_at hl 0 rfl) ?_
            refine lv_bipush (v := (8 : Int32)) hx hb dX2_readFrom_97 (by decide) ?_
            obtain ⟨r_33, hc_34, hf⟩ := obd hf
            refine ct_V (As := [.int (((p2 + (3 : Int32)) + (0 : Int32)) + (0 : Int32)), .int (8 : Int32)]) (rest := [.ref ae]) (wr := [(ae, .inr (1, [.int r_1, .int (0 : Int32), .int r_25, .long ev]))]) (wn := [(ae, .inr (1, [.int r_1, .int (0 : Int32), .int r_25, .long ev])), (ak, .inr (0, [.ref ar])), (ar, .inl (y 0, nb, .inl bb))]) hfix (cX0_number_ok l D y ak ar nb bb (((p2 + (3 : Int32)) + (0 : Int32)) + (0 : Int32)) (8 : Int32) _ hc_34) (cwV 2 hts gX2_readFrom_X0_number rfl rfl rfl (by decide +kernel) ⟨Nat.le_of_ble_eq_true rfl, Nat.le_of_ble_eq_true rfl⟩) E hP hD hS [1, 2] [0] [0, 1, 2] rfl rfl rfl rfl (by decide) rfl rfl 0 0 rfl rfl rfl hl.1 rfl (Nat.le_of_ble_eq_true rfl) dX2_readFrom_99 ⟨Nat.zero_le _, Nat.zero_le _⟩ (fun H locs hP hD hS => ?_)
            refine W.eq (g2 := F0 m 102 ls [.long r_33, .ref ae]) rfl ?_
            refine lv_goto (tgt := 106) hx hb dX2_readFrom_102 (by decide) ?_
            refine va_put (D := D) (ci := 1) (v := .long r_33) (ty := .long) (C := RX2) (T := TX2) (N := 4) hx hb hts iX2 tyX2 tyX2_ok nmX2 hown hK hP hD hS 0 rfl rfl 3 (by decide) (hts (.fieldLink RX2 21 "SampleTracker$Entry" "volume" "J") (by decide +kernel)) (fun _ h9 => h9) rfl (by decide +kernel) rfl rfl (Nat.le_of_ble_eq_true rfl) dX2_readFrom_106 (fun H locs hP hD hS => ?_)
            have hP : va_P D vwCl [(ae, .inr (1, [.int r_1, .int (0 : Int32), .int r_25, .long r_33])), (ak, .inr (0, [.ref ar])), (ar, .inl (y 0, nb, .inl bb))] H := hP
            have hD : va_D A [(ae, .inr (1, [.int r_1, .int (0 : Int32), .int r_25, .long r_33])), (ak, .inr (0, [.ref ar])), (ar, .inl (y 0, nb, .inl bb))] := hD
            obtain rfl := Option.some.inj hf
            exact W.vret hx hb hr (fun t ht hW => ⟨⟨(), rfl, by rw [ht]; exact hP, hD⟩, hS.F ht⟩) hS.2.2 dX2_readFrom_109
        · have hf := ifn hf c_29
          refine lv_iconst (v := (1 : Int32)) hx hb dX2_readFrom_80 (by decide) ?_
          refine lv_goto (tgt := 85) hx hb dX2_readFrom_81 (by decide) ?_
          refine lv_iadd hx hb dX2_readFrom_85 ?_
          refine lv_istore_n (lv' := [(3, .int (((p2 + (3 : Int32)) + (0 : Int32)) + (1 : Int32))), (0, .ref ae), (1, .ref ak), (2, .int p2)]) hx hb dX2_readFrom_86 rfl hl (by decide) rfl (fun ls hl => ?_)
          refine lv_aload_n hx hb dX2_readFrom_87 rfl (lv_at hl 1 rfl) ?_
          refine lv_aload_n hx hb dX2_readFrom_88 rfl (lv_at hl 1 rfl) ?_
          obtain ⟨r_35, hc_36, hf⟩ := obd hf
          refine ct_V (As := []) (rest := [.ref ae]) (wr := [(ak, .inr (0, [.ref ar])), (ar, .inl (y 0, nb, .inl bb))]) (wn := [(ae, .inr (1, [.int r_1, .int (0 : Int32), .int r_25, .long ev])), (ak, .inr (0, [.ref ar])), (ar, .inl (y 0, nb, .inl bb))]) hfix (cX2_hasVolume_ok l D y ae r_1 (0 : Int32) r_25 ev _ hc_36) (cwV 0 hts gX2_readFrom_X2_hasVolume rfl rfl rfl (by decide +kernel) ⟨Nat.le_of_ble_eq_true rfl, Nat.le_of_ble_eq_true rfl⟩) E hP hD hS [0] [1, 2] [2, 0, 1] rfl rfl rfl rfl (by decide) rfl rfl 0 1 rfl rfl rfl hl.1 rfl (Nat.le_of_ble_eq_true rfl) dX2_readFrom_89 ⟨Nat.zero_le _, Nat.zero_le _⟩ (fun H locs hP hD hS => ?_)
          refine W.eq (g2 := F0 m 92 ls [.int (zb r_35), .ref ae]) rfl ?_
          refine lv_if_eq (tgt := 105) hx hb dX2_readFrom_92 (by decide) (fun c_37 => ?_) (fun c_37 => ?_)
          · have hf := ifp hf c_37
            refine lv_lconst (v := (0 : Int64)) hx hb dX2_readFrom_105 (by decide) ?_
            refine va_put (D := D) (ci := 1) (v := .long (0 : Int64)) (ty := .long) (C := RX2) (T := TX2) (N := 4) hx hb hts iX2 tyX2 tyX2_ok nmX2 hown hK hP hD hS 0 rfl rfl 3 (by decide) (hts (.fieldLink RX2 21 "SampleTracker$Entry" "volume" "J") (by decide +kernel)) (fun _ h9 => h9) rfl (by decide +kernel) rfl rfl (Nat.le_of_ble_eq_true rfl) dX2_readFrom_106 (fun H locs hP hD hS => ?_)
            have hP : va_P D vwCl [(ae, .inr (1, [.int r_1, .int (0 : Int32), .int r_25, .long (0 : Int64)])), (ak, .inr (0, [.ref ar])), (ar, .inl (y 0, nb, .inl bb))] H := hP
            have hD : va_D A [(ae, .inr (1, [.int r_1, .int (0 : Int32), .int r_25, .long (0 : Int64)])), (ak, .inr (0, [.ref ar])), (ar, .inl (y 0, nb, .inl bb))] := hD
            obtain rfl := Option.some.inj hf
            exact W.vret hx hb hr (fun t ht hW => ⟨⟨(), rfl, by rw [ht]; exact hP, hD⟩, hS.F ht⟩) hS.2.2 dX2_readFrom_109
          · have hf := ifn hf c_37
            refine lv_aload_n hx hb dX2_readFrom_95 rfl (lv_at hl 2 rfl) ?_
            refine lv_iload_n hx hb dX2_readFrom_96 rfl (lv_at hl 0 rfl) ?_
            refine lv_bipush (v := (8 : Int32)) hx hb dX2_readFrom_97 (by decide) ?_
            obtain ⟨r_38, hc_39, hf⟩ := obd hf
            refine ct_V (As := [.int (((p2 + (3 : Int32)) + (0 : Int32)) + (1 : Int32)), .int (8 : Int32)]) (rest := [.ref ae]) (wr := [(ae, .inr (1, [.int r_1, .int (0 : Int32), .int r_25, .long ev]))]) (wn := [(ae, .inr (1, [.int r_1, .int (0 : Int32), .int r_25, .long ev])), (ak, .inr (0, [.ref ar])), (ar, .inl (y 0, nb, .inl bb))]) hfix (cX0_number_ok l D y ak ar nb bb (((p2 + (3 : Int32)) + (0 : Int32)) + (1 : Int32)) (8 : Int32) _ hc_39) (cwV 2 hts gX2_readFrom_X0_number rfl rfl rfl (by decide +kernel) ⟨Nat.le_of_ble_eq_true rfl, Nat.le_of_ble_eq_true rfl⟩) E hP hD hS [1, 2] [0] [0, 1, 2] rfl rfl rfl rfl (by decide) rfl rfl 0 0 rfl rfl rfl hl.1 rfl (Nat.le_of_ble_eq_true rfl) dX2_readFrom_99 ⟨Nat.zero_le _, Nat.zero_le _⟩ (fun H locs hP hD hS => ?_)
            refine W.eq (g2 := F0 m 102 ls [.long r_38, .ref ae]) rfl ?_
            refine lv_goto (tgt := 106) hx hb dX2_readFrom_102 (by decide) ?_
            refine va_put (D := D) (ci := 1) (v := .long r_38) (ty := .long) (C := RX2) (T := TX2) (N := 4) hx hb hts iX2 tyX2 tyX2_ok nmX2 hown hK hP hD hS 0 rfl rfl 3 (by decide) (hts (.fieldLink RX2 21 "SampleTracker$Entry" "volume" "J") (by decide +kernel)) (fun _ h9 => h9) rfl (by decide +kernel) rfl rfl (Nat.le_of_ble_eq_true rfl) dX2_readFrom_106 (fun H locs hP hD hS => ?_)
            have hP : va_P D vwCl [(ae, .inr (1, [.int r_1, .int (0 : Int32), .int r_25, .long r_38])), (ak, .inr (0, [.ref ar])), (ar, .inl (y 0, nb, .inl bb))] H := hP
            have hD : va_D A [(ae, .inr (1, [.int r_1, .int (0 : Int32), .int r_25, .long r_38])), (ak, .inr (0, [.ref ar])), (ar, .inl (y 0, nb, .inl bb))] := hD
            obtain rfl := Option.some.inj hf
            exact W.vret hx hb hr (fun t ht hW => ⟨⟨(), rfl, by rw [ht]; exact hP, hD⟩, hS.F ht⟩) hS.2.2 dX2_readFrom_109
    · have hf := ifn hf c_8
      refine lv_iconst (v := (2 : Int32)) hx hb dX2_readFrom_45 (by decide) ?_
      refine lv_goto (tgt := 50) hx hb dX2_readFrom_46 (by decide) ?_
      refine lv_iadd hx hb dX2_readFrom_50 ?_
      refine lv_istore_n (lv' := [(3, .int ((p2 + (3 : Int32)) + (2 : Int32))), (0, .ref ae), (1, .ref ak), (2, .int p2)]) hx hb dX2_readFrom_51 rfl hl (by decide) rfl (fun ls hl => ?_)
      refine lv_aload_n hx hb dX2_readFrom_52 rfl (lv_at hl 1 rfl) ?_
      refine lv_aload_n hx hb dX2_readFrom_53 rfl (lv_at hl 1 rfl) ?_
      obtain ⟨r_40, hc_41, hf⟩ := obd hf
      refine ct_V (As := []) (rest := [.ref ae]) (wr := [(ak, .inr (0, [.ref ar])), (ar, .inl (y 0, nb, .inl bb))]) (wn := [(ae, .inr (1, [.int r_1, .int (0 : Int32), .int ew, .long ev])), (ak, .inr (0, [.ref ar])), (ar, .inl (y 0, nb, .inl bb))]) hfix (cX2_hasWell_ok l D y ae r_1 (0 : Int32) ew ev _ hc_41) (cwV 0 hts gX2_readFrom_X2_hasWell rfl rfl rfl (by decide +kernel) ⟨Nat.le_of_ble_eq_true rfl, Nat.le_of_ble_eq_true rfl⟩) E hP hD hS [0] [1, 2] [2, 0, 1] rfl rfl rfl rfl (by decide) rfl rfl 0 1 rfl rfl rfl hl.1 rfl (Nat.le_of_ble_eq_true rfl) dX2_readFrom_54 ⟨Nat.zero_le _, Nat.zero_le _⟩ (fun H locs hP hD hS => ?_)
      refine W.eq (g2 := F0 m 57 ls [.int (zb r_40), .ref ae]) rfl ?_
      refine lv_if_eq (tgt := 68) hx hb dX2_readFrom_57 (by decide) (fun c_42 => ?_) (fun c_42 => ?_)
      · have hf := ifp hf c_42
        refine lv_iconst (v := (0 : Int32)) hx hb dX2_readFrom_68 (by decide) ?_
        refine va_put (D := D) (ci := 1) (v := .int (0 : Int32)) (ty := .int) (C := RX2) (T := TX2) (N := 4) hx hb hts iX2 tyX2 tyX2_ok nmX2 hown hK hP hD hS 0 rfl rfl 2 (by decide) (hts (.fieldLink RX2 18 "SampleTracker$Entry" "well" "I") (by decide +kernel)) (fun _ h9 => h9) rfl (by decide +kernel) rfl rfl (Nat.le_of_ble_eq_true rfl) dX2_readFrom_69 (fun H locs hP hD hS => ?_)
        have hP : va_P D vwCl [(ae, .inr (1, [.int r_1, .int (0 : Int32), .int (0 : Int32), .long ev])), (ak, .inr (0, [.ref ar])), (ar, .inl (y 0, nb, .inl bb))] H := hP
        have hD : va_D A [(ae, .inr (1, [.int r_1, .int (0 : Int32), .int (0 : Int32), .long ev])), (ak, .inr (0, [.ref ar])), (ar, .inl (y 0, nb, .inl bb))] := hD
        refine lv_iload_n hx hb dX2_readFrom_72 rfl (lv_at hl 0 rfl) ?_
        refine lv_aload_n hx hb dX2_readFrom_73 rfl (lv_at hl 1 rfl) ?_
        obtain ⟨r_43, hc_44, hf⟩ := obd hf
        refine ct_V (As := []) (rest := [.int ((p2 + (3 : Int32)) + (2 : Int32))]) (wr := [(ak, .inr (0, [.ref ar])), (ar, .inl (y 0, nb, .inl bb))]) (wn := [(ae, .inr (1, [.int r_1, .int (0 : Int32), .int (0 : Int32), .long ev])), (ak, .inr (0, [.ref ar])), (ar, .inl (y 0, nb, .inl bb))]) hfix (cX2_hasWell_ok l D y ae r_1 (0 : Int32) (0 : Int32) ev _ hc_44) (cwV 0 hts gX2_readFrom_X2_hasWell rfl rfl rfl (by decide +kernel) ⟨Nat.le_of_ble_eq_true rfl, Nat.le_of_ble_eq_true rfl⟩) E hP hD hS [0] [1, 2] [2, 0, 1] rfl rfl rfl rfl (by decide) rfl rfl 0 1 rfl rfl rfl hl.1 rfl (Nat.le_of_ble_eq_true rfl) dX2_readFrom_74 ⟨Nat.zero_le _, Nat.zero_le _⟩ (fun H locs hP hD hS => ?_)
        refine W.eq (g2 := F0 m 77 ls [.int (zb r_43), .int ((p2 + (3 : Int32)) + (2 : Int32))]) rfl ?_
        refine lv_if_eq (tgt := 84) hx hb dX2_readFrom_77 (by decide) (fun c_45 => ?_) (fun c_45 => ?_)
        · have hf := ifp hf c_45
          refine lv_iconst (v := (0 : Int32)) hx hb dX2_readFrom_84 (by decide) ?_
          refine lv_iadd hx hb dX2_readFrom_85 ?_
          refine lv_istore_n (lv' := [(3, .int (((p2 + (3 : Int32)) + (2 : Int32)) + (0 : Int32))), (0, .ref ae), (1, .ref ak), (2, .int p2)]) hx hb dX2_readFrom_86 rfl hl (by decide) rfl (fun ls hl => ?_)
          refine lv_aload_n hx hb dX2_readFrom_87 rfl (lv_at hl 1 rfl) ?_
          refine lv_aload_n hx hb dX2_readFrom_88 rfl (lv_at hl 1 rfl) ?_
          obtain ⟨r_46, hc_47, hf⟩ := obd hf
          refine ct_V (As := []) (rest := [.ref ae]) (wr := [(ak, .inr (0, [.ref ar])), (ar, .inl (y 0, nb, .inl bb))]) (wn := [(ae, .inr (1, [.int r_1, .int (0 : Int32), .int (0 : Int32), .long ev])), (ak, .inr (0, [.ref ar])), (ar, .inl (y 0, nb, .inl bb))]) hfix (cX2_hasVolume_ok l D y ae r_1 (0 : Int32) (0 : Int32) ev _ hc_47) (cwV 0 hts gX2_readFrom_X2_hasVolume rfl rfl rfl (by decide +kernel) ⟨Nat.le_of_ble_eq_true rfl, Nat.le_of_ble_eq_true rfl⟩) E hP hD hS [0] [1, 2] [2, 0, 1] rfl rfl rfl rfl (by decide) rfl rfl 0 1 rfl rfl rfl hl.1 rfl (Nat.le_of_ble_eq_true rfl) dX2_readFrom_89 ⟨Nat.zero_le _, Nat.zero_le _⟩ (fun H locs hP hD hS => ?_)
          refine W.eq (g2 := F0 m 92 ls [.int (zb r_46), .ref ae]) rfl ?_
          refine lv_if_eq (tgt := 105) hx hb dX2_readFrom_92 (by decide) (fun c_48 => ?_) (fun c_48 => ?_)
          · have hf := ifp hf c_48
            refine lv_lconst (v := (0 : Int64)) hx hb dX2_readFrom_105 (by decide) ?_
            refine va_put (D := D) (ci := 1) (v := .long (0 : Int64)) (ty := .long) (C := RX2) (T := TX2) (N := 4) hx hb hts iX2 tyX2 tyX2_ok nmX2 hown hK hP hD hS 0 rfl rfl 3 (by decide) (hts (.fieldLink RX2 21 "SampleTracker$Entry" "volume" "J") (by decide +kernel)) (fun _ h9 => h9) rfl (by decide +kernel) rfl rfl (Nat.le_of_ble_eq_true rfl) dX2_readFrom_106 (fun H locs hP hD hS => ?_)
            have hP : va_P D vwCl [(ae, .inr (1, [.int r_1, .int (0 : Int32), .int (0 : Int32), .long (0 : Int64)])), (ak, .inr (0, [.ref ar])), (ar, .inl (y 0, nb, .inl bb))] H := hP
            have hD : va_D A [(ae, .inr (1, [.int r_1, .int (0 : Int32), .int (0 : Int32), .long (0 : Int64)])), (ak, .inr (0, [.ref ar])), (ar, .inl (y 0, nb, .inl bb))] := hD
            obtain rfl := Option.some.inj hf
            exact W.vret hx hb hr (fun t ht hW => ⟨⟨(), rfl, by rw [ht]; exact hP, hD⟩, hS.F ht⟩) hS.2.2 dX2_readFrom_109
          · have hf := ifn hf c_48
            refine lv_aload_n hx hb dX2_readFrom_95 rfl (lv_at hl 2 rfl) ?_
            refine lv_iload_n hx hb dX2_readFrom_96 rfl (lv_at hl 0 rfl) ?_
            refine lv_bipush (v := (8 : Int32)) hx hb dX2_readFrom_97 (by decide) ?_
            obtain ⟨r_49, hc_50, hf⟩ := obd hf
            refine ct_V (As := [.int (((p2 + (3 : Int32)) + (2 : Int32)) + (0 : Int32)), .int (8 : Int32)]) (rest := [.ref ae]) (wr := [(ae, .inr (1, [.int r_1, .int (0 : Int32), .int (0 : Int32), .long ev]))]) (wn := [(ae, .inr (1, [.int r_1, .int (0 : Int32), .int (0 : Int32), .long ev])), (ak, .inr (0, [.ref ar])), (ar, .inl (y 0, nb, .inl bb))]) hfix (cX0_number_ok l D y ak ar nb bb (((p2 + (3 : Int32)) + (2 : Int32)) + (0 : Int32)) (8 : Int32) _ hc_50) (cwV 2 hts gX2_readFrom_X0_number rfl rfl rfl (by decide +kernel) ⟨Nat.le_of_ble_eq_true rfl, Nat.le_of_ble_eq_true rfl⟩) E hP hD hS [1, 2] [0] [0, 1, 2] rfl rfl rfl rfl (by decide) rfl rfl 0 0 rfl rfl rfl hl.1 rfl (Nat.le_of_ble_eq_true rfl) dX2_readFrom_99 ⟨Nat.zero_le _, Nat.zero_le _⟩ (fun H locs hP hD hS => ?_)
            refine W.eq (g2 := F0 m 102 ls [.long r_49, .ref ae]) rfl ?_
            refine lv_goto (tgt := 106) hx hb dX2_readFrom_102 (by decide) ?_
            refine va_put (D := D) (ci := 1) (v := .long r_49) (ty := .long) (C := RX2) (T := TX2) (N := 4) hx hb hts iX2 tyX2 tyX2_ok nmX2 hown hK hP hD hS 0 rfl rfl 3 (by decide) (hts (.fieldLink RX2 21 "SampleTracker$Entry" "volume" "J") (by decide +kernel)) (fun _ h9 => h9) rfl (by decide +kernel) rfl rfl (Nat.le_of_ble_eq_true rfl) dX2_readFrom_106 (fun H locs hP hD hS => ?_)
            have hP : va_P D vwCl [(ae, .inr (1, [.int r_1, .int (0 : Int32), .int (0 : Int32), .long r_49])), (ak, .inr (0, [.ref ar])), (ar, .inl (y 0, nb, .inl bb))] H := hP
            have hD : va_D A [(ae, .inr (1, [.int r_1, .int (0 : Int32), .int (0 : Int32), .long r_49])), (ak, .inr (0, [.ref ar])), (ar, .inl (y 0, nb, .inl bb))] := hD
            obtain rfl := Option.some.inj hf
            exact W.vret hx hb hr (fun t ht hW => ⟨⟨(), rfl, by rw [ht]; exact hP, hD⟩, hS.F ht⟩) hS.2.2 dX2_readFrom_109
        · have hf := ifn hf c_45
          refine lv_iconst (v := (1 : Int32)) hx hb dX2_readFrom_80 (by decide) ?_
          refine lv_goto (tgt := 85) hx hb dX2_readFrom_81 (by decide) ?_
          refine lv_iadd hx hb dX2_readFrom_85 ?_
          refine lv_istore_n (lv' := [(3, .int (((p2 + (3 : Int32)) + (2 : Int32)) + (1 : Int32))), (0, .ref ae), (1, .ref ak), (2, .int p2)]) hx hb dX2_readFrom_86 rfl hl (by decide) rfl (fun ls hl => ?_)
          refine lv_aload_n hx hb dX2_readFrom_87 rfl (lv_at hl 1 rfl) ?_
          refine lv_aload_n hx hb dX2_readFrom_88 rfl (lv_at hl 1 rfl) ?_
          obtain ⟨r_51, hc_52, hf⟩ := obd hf
          refine ct_V (As := []) (rest := [.ref ae]) (wr := [(ak, .inr (0, [.ref ar])), (ar, .inl (y 0, nb, .inl bb))]) (wn := [(ae, .inr (1, [.int r_1, .int (0 : Int32), .int (0 : Int32), .long ev])), (ak, .inr (0, [.ref ar])), (ar, .inl (y 0, nb, .inl bb))]) hfix (cX2_hasVolume_ok l D y ae r_1 (0 : Int32) (0 : Int32) ev _ hc_52) (cwV 0 hts gX2_readFrom_X2_hasVolume rfl rfl rfl (by decide +kernel) ⟨Nat.le_of_ble_eq_true rfl, Nat.le_of_ble_eq_true rfl⟩) E hP hD hS [0] [1, 2] [2, 0, 1] rfl rfl rfl rfl (by decide) rfl rfl 0 1 rfl rfl rfl hl.1 rfl (Nat.le_of_ble_eq_true rfl) dX2_readFrom_89 ⟨Nat.zero_le _, Nat.zero_le _⟩ (fun H locs hP hD hS => ?_)
          refine W.eq (g2 := F0 m 92 ls [.int (zb r_51), .ref ae]) rfl ?_
          refine lv_if_eq (tgt := 105) hx hb dX2_readFrom_92 (by decide) (fun c_53 => ?_) (fun c_53 => ?_)
          · have hf := ifp hf c_53
            refine lv_lconst (v := (0 : Int64)) hx hb dX2_readFrom_105 (by decide) ?_
            refine va_put (D := D) (ci := 1) (v := .long (0 : Int64)) (ty := .long) (C := RX2) (T := TX2) (N := 4) hx hb hts iX2 tyX2 tyX2_ok nmX2 hown hK hP hD hS 0 rfl rfl 3 (by decide) (hts (.fieldLink RX2 21 "SampleTracker$Entry" "volume" "J") (by decide +kernel)) (fun _ h9 => h9) rfl (by decide +kernel) rfl rfl (Nat.le_of_ble_eq_true rfl) dX2_readFrom_106 (fun H locs hP hD hS => ?_)
            have hP : va_P D vwCl [(ae, .inr (1, [.int r_1, .int (0 : Int32), .int (0 : Int32), .long (0 : Int64)])), (ak, .inr (0, [.ref ar])), (ar, .inl (y 0, nb, .inl bb))] H := hP
            have hD : va_D A [(ae, .inr (1, [.int r_1, .int (0 : Int32), .int (0 : Int32), .long (0 : Int64)])), (ak, .inr (0, [.ref ar])), (ar, .inl (y 0, nb, .inl bb))] := hD
            obtain rfl := Option.some.inj hf
            exact W.vret hx hb hr (fun t ht hW => ⟨⟨(), rfl, by rw [ht]; exact hP, hD⟩, hS.F ht⟩) hS.2.2 dX2_readFrom_109
          · have hf := ifn hf c_53
            refine lv_aload_n hx hb dX2_readFrom_95 rfl (lv_at hl 2 rfl) ?_
            refine lv_iload_n hx hb dX2_readFrom_96 rfl (lv_at hl 0 rfl) ?_
            refine lv_bipush (v := (8 : Int32)) hx hb dX2_readFrom_97 (by decide) ?_
            obtain ⟨r_54, hc_55, hf⟩ := obd hf
            refine ct_V (As := [.int (((p2 + (3 : Int32)) + (2 : Int32)) + (1 : Int32)), .int (8 : Int32)]) (rest := [.ref ae]) (wr := [(ae, .inr (1, [.int r_1, .int (0 : Int32), .int (0 : Int32), .long ev]))]) (wn := [(ae, .inr (1, [.int r_1, .int (0 : Int32), .int (0 : Int32), .long ev])), (ak, .inr (0, [.ref ar])), (ar, .inl (y 0, nb, .inl bb))]) hfix (cX0_number_ok l D y ak ar nb bb (((p2 + (3 : Int32)) + (2 : Int32)) + (1 : Int32)) (8 : Int32) _ hc_55) (cwV 2 hts gX2_readFrom_X0_number rfl rfl rfl (by decide +kernel) ⟨Nat.le_of_ble_eq_true rfl, Nat.le_of_ble_eq_true rfl⟩) E hP hD hS [1, 2] [0] [0, 1, 2] rfl rfl rfl rfl (by decide) rfl rfl 0 0 rfl rfl rfl hl.1 rfl (Nat.le_of_ble_eq_true rfl) dX2_readFrom_99 ⟨Nat.zero_le _, Nat.zero_le _⟩ (fun H locs hP hD hS => ?_)
            refine W.eq (g2 := F0 m 102 ls [.long r_54, .ref ae]) rfl ?_
            refine lv_goto (tgt := 106) hx hb dX2_readFrom_102 (by decide) ?_
            refine va_put (D := D) (ci := 1) (v := .long r_54) (ty := .long) (C := RX2) (T := TX2) (N := 4) hx hb hts iX2 tyX2 tyX2_ok nmX2 hown hK hP hD hS 0 rfl rfl 3 (by decide) (hts (.fieldLink RX2 21 "SampleTracker$Entry" "volume" "J") (by decide +kernel)) (fun _ h9 => h9) rfl (by decide +kernel) rfl rfl (Nat.le_of_ble_eq_true rfl) dX2_readFrom_106 (fun H locs hP hD hS => ?_)
            have hP : va_P D vwCl [(ae, .inr (1, [.int r_1, .int (0 : Int32), .int (0 : Int32), .long r_54])), (ak, .inr (0, [.ref ar])), (ar, .inl (y 0, nb, .inl bb))] H := hP
            have hD : va_D A [(ae, .inr (1, [.int r_1, .int (0 : Int32), .int (0 : Int32), .long r_54])), (ak, .inr (0, [.ref ar])), (ar, .inl (y 0, nb, .inl bb))] := hD
            obtain rfl := Option.some.inj hf
            exact W.vret hx hb hr (fun t ht hW => ⟨⟨(), rfl, by rw [ht]; exact hP, hD⟩, hS.F ht⟩) hS.2.2 dX2_readFrom_109
      · have hf := ifn hf c_42
        refine lv_aload_n hx hb dX2_readFrom_60 rfl (lv_at hl 2 rfl) ?_
        refine lv_iload_n hx hb dX2_readFrom_61 rfl (lv_at hl 0 rfl) ?_
        obtain ⟨r_56, hc_57, hf⟩ := obd hf
        refine ct_V (As := [.int ((p2 + (3 : Int32)) + (2 : Int32))]) (rest := [.ref ae]) (wr := [(ae, .inr (1, [.int r_1, .int (0 : Int32), .int ew, .long ev]))]) (wn := [(ae, .inr (1, [.int r_1, .int (0 : Int32), .int ew, .long ev])), (ak, .inr (0, [.ref ar])), (ar, .inl (y 0, nb, .inl bb))]) hfix (cX0_at_ok l D y ak ar nb bb ((p2 + (3 : Int32)) + (2 : Int32)) _ hc_57) (cwV 1 hts gX2_readFrom_X0_at rfl rfl rfl (by decide +kernel) ⟨Nat.le_of_ble_eq_true rfl, Nat.le_of_ble_eq_true rfl⟩) E hP hD hS [1, 2] [0] [0, 1, 2] rfl rfl rfl rfl (by decide) rfl rfl 0 0 rfl rfl rfl hl.1 rfl (Nat.le_of_ble_eq_true rfl) dX2_readFrom_62 ⟨Nat.zero_le _, Nat.zero_le _⟩ (fun H locs hP hD hS => ?_)
        refine W.eq (g2 := F0 m 65 ls [.int r_56, .ref ae]) rfl ?_
        refine lv_goto (tgt := 69) hx hb dX2_readFrom_65 (by decide) ?_
        refine va_put (D := D) (ci := 1) (v := .int r_56) (ty := .int) (C := RX2) (T := TX2) (N := 4) hx hb hts iX2 tyX2 tyX2_ok nmX2 hown hK hP hD hS 0 rfl rfl 2 (by decide) (hts (.fieldLink RX2 18 "SampleTracker$Entry" "well" "I") (by decide +kernel)) (fun _ h9 => h9) rfl (by decide +kernel) rfl rfl (Nat.le_of_ble_eq_true rfl) dX2_readFrom_69 (fun H locs hP hD hS => ?_)
        have hP : va_P D vwCl [(ae, .inr (1, [.int r_1, .int (0 : Int32), .int r_56, .long ev])), (ak, .inr (0, [.ref ar])), (ar, .inl (y 0, nb, .inl bb))] H := hP
        have hD : va_D A [(ae, .inr (1, [.int r_1, .int (0 : Int32), .int r_56, .long ev])), (ak, .inr (0, [.ref ar])), (ar, .inl (y 0, nb, .inl bb))] := hD
        refine lv_iload_n hx hb dX2_readFrom_72 rfl (lv_at hl 0 rfl) ?_
        refine lv_aload_n hx hb dX2_readFrom_73 rfl (lv_at hl 1 rfl) ?_
        obtain ⟨r_58, hc_59, hf⟩ := obd hf
        refine ct_V (As := []) (rest := [.int ((p2 + (3 : Int32)) + (2 : Int32))]) (wr := [(ak, .inr (0, [.ref ar])), (ar, .inl (y 0, nb, .inl bb))]) (wn := [(ae, .inr (1, [.int r_1, .int (0 : Int32), .int r_56, .long ev])), (ak, .inr (0, [.ref ar])), (ar, .inl (y 0, nb, .inl bb))]) hfix (cX2_hasWell_ok l D y ae r_1 (0 : Int32) r_56 ev _ hc_59) (cwV 0 hts gX2_readFrom_X2_hasWell rfl rfl rfl (by decide +kernel) ⟨Nat.le_of_ble_eq_true rfl, Nat.le_of_ble_eq_true rfl⟩) E hP hD hS [0] [1, 2] [2, 0, 1] rfl rfl rfl rfl (by decide) rfl rfl 0 1 rfl rfl rfl hl.1 rfl (Nat.le_of_ble_eq_true rfl) dX2_readFrom_74 ⟨Nat.zero_le _, Nat.zero_le _⟩ (fun H locs hP hD hS => ?_)
        refine W.eq (g2 := F0 m 77 ls [.int (zb r_58), .int ((p2 + (3 : Int32)) + (2 : Int32))]) rfl ?_
        refine lv_if_eq (tgt := 84) hx hb dX2_readFrom_77 (by decide) (fun c_60 => ?_) (fun c_60 => ?_)
        · have hf := ifp hf c_60
          refine lv_iconst (v := (0 : Int32)) hx hb dX2_readFrom_84 (by decide) ?_
          refine lv_iadd hx hb dX2_readFrom_85 ?_
          refine lv_istore_n (lv' := [(3, .int (((p2 + (3 : Int32)) + (2 : Int32)) + (0 : Int32))), (0, .ref ae), (1, .ref ak), (2, .int p2)]) hx hb dX2_readFrom_86 rfl hl (by decide) rfl (fun ls hl => ?_)
          refine lv_aload_n hx hb dX2_readFrom_87 rfl (lv_at hl 1 rfl) ?_
          refine lv_aload_n hx hb dX2_readFrom_88 rfl (lv_at hl 1 rfl) ?_
          obtain ⟨r_61, hc_62, hf⟩ := obd hf
          refine ct_V (As := []) (rest := [.ref ae]) (wr := [(ak, .inr (0, [.ref ar])), (ar, .inl (y 0, nb, .inl bb))]) (wn := [(ae, .inr (1, [.int r_1, .int (0 : Int32), .int r_56, .long ev])), (ak, .inr (0, [.ref ar])), (ar, .inl (y 0, nb, .inl bb))]) hfix (cX2_hasVolume_ok l D y ae r_1 (0 : Int32) r_56 ev _ hc_62) (cwV 0 hts gX2_readFrom_X2_hasVolume rfl rfl rfl (by decide +kernel) ⟨Nat.le_of_ble_eq_true rfl, Nat.le_of_ble_eq_true rfl⟩) E hP hD hS [0] [1, 2] [2, 0, 1] rfl rfl rfl rfl (by decide) rfl rfl 0 1 rfl rfl rfl hl.1 rfl (Nat.le_of_ble_eq_true rfl) dX2_readFrom_89 ⟨Nat.zero_le _, Nat.zero_le _⟩ (fun H locs hP hD hS => ?_)
          refine W.eq (g2 := F0 m 92 ls [.int (zb r_61), .ref ae]) rfl ?_
          refine lv_if_eq (tgt := 105) hx hb dX2_readFrom_92 (by decide) (fun c_63 => ?_) (fun c_63 => ?_)
          · have hf := ifp hf c_63
            refine lv_lconst (v := (0 : Int64)) hx hb dX2_readFrom_105 (by decide) ?_
            refine va_put (D := D) (ci := 1) (v := .long (0 : Int64)) (ty := .long) (C := RX2) (T := TX2) (N := 4) hx hb hts iX2 tyX2 tyX2_ok nmX2 hown hK hP hD hS 0 rfl rfl 3 (by decide) (hts (.fieldLink RX2 21 "SampleTracker$Entry" "volume" "J") (by decide +kernel)) (fun _ h9 => h9) rfl (by decide +kernel) rfl rfl (Nat.le_of_ble_eq_true rfl) dX2_readFrom_106 (fun H locs hP hD hS => ?_)
            have hP : va_P D vwCl [(ae, .inr (1, [.int r_1, .int (0 : Int32), .int r_56, .long (0 : Int64)])), (ak, .inr (0, [.ref ar])), (ar, .inl (y 0, nb, .inl bb))] H := hP
            have hD : va_D A [(ae, .inr (1, [.int r_1, .int (0 : Int32), .int r_56, .long (0 : Int64)])), (ak, .inr (0, [.ref ar])), (ar, .inl (y 0, nb, .inl bb))] := hD
            obtain rfl := Option.some.inj hf
            exact W.vret hx hb hr (fun t ht hW => ⟨⟨(), rfl, by rw [ht]; exact hP, hD⟩, hS.F ht⟩) hS.2.2 dX2_readFrom_109
          · have hf := ifn hf c_63
            refine lv_aload_n hx hb dX2_readFrom_95 rfl (lv_at hl 2 rfl) ?_
            refine lv_iload_n hx hb dX2_readFrom_96 rfl (lv_at hl 0 rfl) ?_
            refine lv_bipush (v := (8 : Int32)) hx hb dX2_readFrom_97 (by decide) ?_
            obtain ⟨r_64, hc_65, hf⟩ := obd hf
            refine ct_V (As := [.int (((p2 + (3 : Int32)) + (2 : Int32)) + (0 : Int32)), .int (8 : Int32)]) (rest := [.ref ae]) (wr := [(ae, .inr (1, [.int r_1, .int (0 : Int32), .int r_56, .long ev]))]) (wn := [(ae, .inr (1, [.int r_1, .int (0 : Int32), .int r_56, .long ev])), (ak, .inr (0, [.ref ar])), (ar, .inl (y 0, nb, .inl bb))]) hfix (cX0_number_ok l D y ak ar nb bb (((p2 + (3 : Int32)) + (2 : Int32)) + (0 : Int32)) (8 : Int32) _ hc_65) (cwV 2 hts gX2_readFrom_X0_number rfl rfl rfl (by decide +kernel) ⟨Nat.le_of_ble_eq_true rfl, Nat.le_of_ble_eq_true rfl⟩) E hP hD hS [1, 2] [0] [0, 1, 2] rfl rfl rfl rfl (by decide) rfl rfl 0 0 rfl rfl rfl hl.1 rfl (Nat.le_of_ble_eq_true rfl) dX2_readFrom_99 ⟨Nat.zero_le _, Nat.zero_le _⟩ (fun H locs hP hD hS => ?_)
            refine W.eq (g2 := F0 m 102 ls [.long r_64, .ref ae]) rfl ?_
            refine lv_goto (tgt := 106) hx hb dX2_readFrom_102 (by decide) ?_
            refine va_put (D := D) (ci := 1) (v := .long r_64) (ty := .long) (C := RX2) (T := TX2) (N := 4) hx hb hts iX2 tyX2 tyX2_ok nmX2 hown hK hP hD hS 0 rfl rfl 3 (by decide) (hts (.fieldLink RX2 21 "SampleTracker$Entry" "volume" "J") (by decide +kernel)) (fun _ h9 => h9) rfl (by decide +kernel) rfl rfl (Nat.le_of_ble_eq_true rfl) dX2_readFrom_106 (fun H locs hP hD hS => ?_)
            have hP : va_P D vwCl [(ae, .inr (1, [.int r_1, .int (0 : Int32), .int r_56, .long r_64])), (ak, .inr (0, [.ref ar])), (ar, .inl (y 0, nb, .inl bb))] H := hP
            have hD : va_D A [(ae, .inr (1, [.int r_1, .int (0 : Int32), .int r_56, .long r_64])), (ak, .inr (0, [.ref ar])), (ar, .inl (y 0, nb, .inl bb))] := hD
            obtain rfl := Option.some.inj hf
            exact W.vret hx hb hr (fun t ht hW => ⟨⟨(), rfl, by rw [ht]; exact hP, hD⟩, hS.F ht⟩) hS.2.2 dX2_readFrom_109
        · have hf := ifn hf c_60
          refine lv_iconst (v := (1 : Int32)) hx hb dX2_readFrom_80 (by decide) ?_
          refine lv_goto (tgt := 85) hx hb dX2_readFrom_81 (by decide) ?_
          refine lv_iadd hx hb dX2_readFrom_85 ?_
          refine lv_istore_n (lv' := [(3, .int (((p2 + (3 : Int32)) + (2 : Int32)) + (1 : Int32))), (0, .ref ae), (1, .ref ak), (2, .int p2)]) hx hb dX2_readFrom_86 rfl hl (by decide) rfl (fun ls hl => ?_)
          refine lv_aload_n hx hb dX2_readFrom_87 rfl (lv_at hl 1 rfl) ?_
          refine lv_aload_n hx hb dX2_readFrom_88 rfl (lv_at hl 1 rfl) ?_
          obtain ⟨r_66, hc_67, hf⟩ := obd hf
          refine ct_V (As := []) (rest := [.ref ae]) (wr := [(ak, .inr (0, [.ref ar])), (ar, .inl (y 0, nb, .inl bb))]) (wn := [(ae, .inr (1, [.int r_1, .int (0 : Int32), .int r_56, .long ev])), (ak, .inr (0, [.ref ar])), (ar, .inl (y 0, nb, .inl bb))]) hfix (cX2_hasVolume_ok l D y ae r_1 (0 : Int32) r_56 ev _ hc_67) (cwV 0 hts gX2_readFrom_X2_hasVolume rfl rfl rfl (by decide +kernel) ⟨Nat.le_of_ble_eq_true rfl, Nat.le_of_ble_eq_true rfl⟩) E hP hD hS [0] [1, 2] [2, 0, 1] rfl rfl rfl rfl (by decide) rfl rfl 0 1 rfl rfl rfl hl.1 rfl (Nat.le_of_ble_eq_true rfl) dX2_readFrom_89 ⟨Nat.zero_le _, Nat.zero_le _⟩ (fun H locs hP hD hS => ?_)
          refine W.eq (g2 := F0 m 92 ls [.int (zb r_66), .ref ae]) rfl ?_
          refine lv_if_eq (tgt := 105) hx hb dX2_readFrom_92 (by decide) (fun c_68 => ?_) (fun c_68 => ?_)
          · have hf := ifp hf c_68
            refine lv_lconst (v := (0 : Int64)) hx hb dX2_readFrom_105 (by decide) ?_
            refine va_put (D := D) (ci := 1) (v := .long (0 : Int64)) (ty := .long) (C := RX2) (T := TX2) (N := 4) hx hb hts iX2 tyX2 tyX2_ok nmX2 hown hK hP hD hS 0 rfl rfl 3 (by decide) (hts (.fieldLink RX2 21 "SampleTracker$Entry" "volume" "J") (by decide +kernel)) (fun _ h9 => h9) rfl (by decide +kernel) rfl rfl (Nat.le_of_ble_eq_true rfl) dX2_readFrom_106 (fun H locs hP hD hS => ?_)
            have hP : va_P D vwCl [(ae, .inr (1, [.int r_1, .int (0 : Int32), .int r_56, .long (0 : Int64)])), (ak, .inr (0, [.ref ar])), (ar, .inl (y 0, nb, .inl bb))] H := hP
            have hD : va_D A [(ae, .inr (1, [.int r_1, .int (0 : Int32), .int r_56, .long (0 : Int64)])), (ak, .inr (0, [.ref ar])), (ar, .inl (y 0, nb, .inl bb))] := hD
            obtain rfl := Option.some.inj hf
            exact W.vret hx hb hr (fun t ht hW => ⟨⟨(), rfl, by rw [ht]; exact hP, hD⟩, hS.F ht⟩) hS.2.2 dX2_readFrom_109
          · have hf := ifn hf c_68
            refine lv_aload_n hx hb dX2_readFrom_95 rfl (lv_at hl 2 rfl) ?_
            refine lv_iload_n hx hb dX2_readFrom_96 rfl (lv_at hl 0 rfl) ?_
            refine lv_bipush (v := (8 : Int32)) hx hb dX2_readFrom_97 (by decide) ?_
            obtain ⟨r_69, hc_70, hf⟩ := obd hf
            refine ct_V (As := [.int (((p2 + (3 : Int32)) + (2 : Int32)) + (1 : Int32)), .int (8 : Int32)]) (rest := [.ref ae]) (wr := [(ae, .inr (1, [.int r_1, .int (0 : Int32), .int r_56, .long ev]))]) (wn := [(ae, .inr (1, [.int r_1, .int (0 : Int32), .int r_56, .long ev])), (ak, .inr (0, [.ref ar])), (ar, .inl (y 0, nb, .inl bb))]) hfix (cX0_number_ok l D y ak ar nb bb (((p2 + (3 : Int32)) + (2 : Int32)) + (1 : Int32)) (8 : Int32) _ hc_70) (cwV 2 hts gX2_readFrom_X0_number rfl rfl rfl (by decide +kernel) ⟨Nat.le_of_ble_eq_true rfl, Nat.le_of_ble_eq_true rfl⟩) E hP hD hS [1, 2] [0] [0, 1, 2] rfl rfl rfl rfl (by decide) rfl rfl 0 0 rfl rfl rfl hl.1 rfl (Nat.le_of_ble_eq_true rfl) dX2_readFrom_99 ⟨Nat.zero_le _, Nat.zero_le _⟩ (fun H locs hP hD hS => ?_)
            refine W.eq (g2 := F0 m 102 ls [.long r_69, .ref ae]) rfl ?_
            refine lv_goto (tgt := 106) hx hb dX2_readFrom_102 (by decide) ?_
            refine va_put (D := D) (ci := 1) (v := .long r_69) (ty := .long) (C := RX2) (T := TX2) (N := 4) hx hb hts iX2 tyX2 tyX2_ok nmX2 hown hK hP hD hS 0 rfl rfl 3 (by decide) (hts (.fieldLink RX2 21 "SampleTracker$Entry" "volume" "J") (by decide +kernel)) (fun _ h9 => h9) rfl (by decide +kernel) rfl rfl (Nat.le_of_ble_eq_true rfl) dX2_readFrom_106 (fun H locs hP hD hS => ?_)
            have hP : va_P D vwCl [(ae, .inr (1, [.int r_1, .int (0 : Int32), .int r_56, .long r_69])), (ak, .inr (0, [.ref ar])), (ar, .inl (y 0, nb, .inl bb))] H := hP
            have hD : va_D A [(ae, .inr (1, [.int r_1, .int (0 : Int32), .int r_56, .long r_69])), (ak, .inr (0, [.ref ar])), (ar, .inl (y 0, nb, .inl bb))] := hD
            obtain rfl := Option.some.inj hf
            exact W.vret hx hb hr (fun t ht hW => ⟨⟨(), rfl, by rw [ht]; exact hP, hD⟩, hS.F ht⟩) hS.2.2 dX2_readFrom_109
  · have hf := ifn hf c_5
    refine lv_aload_n hx hb dX2_readFrom_23 rfl (lv_at hl 2 rfl) ?_
    refine lv_iload_n hx hb dX2_readFrom_24 rfl (lv_at hl 0 rfl) ?_
    refine lv_iconst (v := (2 : Int32)) hx hb dX2_readFrom_25 (by decide) ?_
    obtain ⟨r_71, hc_72, hf⟩ := obd hf
    refine ct_V (As := [.int (p2 + (3 : Int32)), .int (2 : Int32)]) (rest := [.ref ae]) (wr := [(ae, .inr (1, [.int r_1, .int es, .int ew, .long ev]))]) (wn := [(ae, .inr (1, [.int r_1, .int es, .int ew, .long ev])), (ak, .inr (0, [.ref ar])), (ar, .inl (y 0, nb, .inl bb))]) hfix (cX0_number_ok l D y ak ar nb bb (p2 + (3 : Int32)) (2 : Int32) _ hc_72) (cwV 2 hts gX2_readFrom_X0_number rfl rfl rfl (by decide +kernel) ⟨Nat.le_of_ble_eq_true rfl, Nat.le_of_ble_eq_true rfl⟩) E hP hD hS [1, 2] [0] [0, 1, 2] rfl rfl rfl rfl (by decide) rfl rfl 0 0 rfl rfl rfl hl.1 rfl (Nat.le_of_ble_eq_true rfl) dX2_readFrom_26 ⟨Nat.zero_le _, Nat.zero_le _⟩ (fun H locs hP hD hS => ?_)
    refine W.eq (g2 := F0 m 29 ls [.long r_71, .ref ae]) rfl ?_
    refine lv_l2i (v := (r_71.toInt32)) hx hb dX2_readFrom_29 rfl ?_
    refine lv_goto (tgt := 34) hx hb dX2_readFrom_30 (by decide) ?_
    refine va_put (D := D) (ci := 1) (v := .int (r_71.toInt32)) (ty := .int) (C := RX2) (T := TX2) (N := 4) hx hb hts iX2 tyX2 tyX2_ok nmX2 hown hK hP hD hS 0 rfl rfl 1 (by decide) (hts (.fieldLink RX2 15 "SampleTracker$Entry" "sample" "I") (by decide +kernel)) (fun _ h9 => h9) rfl (by decide +kernel) rfl rfl (Nat.le_of_ble_eq_true rfl) dX2_readFrom_34 (fun H locs hP hD hS => ?_)
    have hP : va_P D vwCl [(ae, .inr (1, [.int r_1, .int (r_71.toInt32), .int ew, .long ev])), (ak, .inr (0, [.ref ar])), (ar, .inl (y 0, nb, .inl bb))] H := hP
    have hD : va_D A [(ae, .inr (1, [.int r_1, .int (r_71.toInt32), .int ew, .long ev])), (ak, .inr (0, [.ref ar])), (ar, .inl (y 0, nb, .inl bb))] := hD
    refine lv_iload_n hx hb dX2_readFrom_37 rfl (lv_at hl 0 rfl) ?_
    refine lv_aload_n hx hb dX2_readFrom_38 rfl (lv_at hl 1 rfl) ?_
    obtain ⟨r_73, hc_74, hf⟩ := obd hf
    refine ct_V (As := []) (rest := [.int (p2 + (3 : Int32))]) (wr := [(ak, .inr (0, [.ref ar])), (ar, .inl (y 0, nb, .inl bb))]) (wn := [(ae, .inr (1, [.int r_1, .int (r_71.toInt32), .int ew, .long ev])), (ak, .inr (0, [.ref ar])), (ar, .inl (y 0, nb, .inl bb))]) hfix (cX2_hasSample_ok l D y ae r_1 (r_71.toInt32) ew ev _ hc_74) (cwV 0 hts gX2_readFrom_X2_hasSample rfl rfl rfl (by decide +kernel) ⟨Nat.le_of_ble_eq_true rfl, Nat.le_of_ble_eq_true rfl⟩) E hP hD hS [0] [1, 2] [2, 0, 1] rfl rfl rfl rfl (by decide) rfl rfl 0 1 rfl rfl rfl hl.1 rfl (Nat.le_of_ble_eq_true rfl) dX2_readFrom_39 ⟨Nat.zero_le _, Nat.zero_le _⟩ (fun H locs hP hD hS => ?_)
    refine W.eq (g2 := F0 m 42 ls [.int (zb r_73), .int (p2 + (3 : Int32))]) rfl ?_
    refine lv_if_eq (tgt := 49) hx hb dX2_readFrom_42 (by decide) (fun c_75 => ?_) (fun c_75 => ?_)
    · have hf := ifp hf c_75
      refine lv_iconst (v := (0 : Int32)) hx hb dX2_readFrom_49 (by decide) ?_
      refine lv_iadd hx hb dX2_readFrom_50 ?_
      refine lv_istore_n (lv' := [(3, .int ((p2 + (3 : Int32)) + (0 : Int32))), (0, .ref ae), (1, .ref ak), (2, .int p2)]) hx hb dX2_readFrom_51 rfl hl (by decide) rfl (fun ls hl => ?_)
      refine lv_aload_n hx hb dX2_readFrom_52 rfl (lv_at hl 1 rfl) ?_
      refine lv_aload_n hx hb dX2_readFrom_53 rfl (lv_at hl 1 rfl) ?_
      obtain ⟨r_76, hc_77, hf⟩ := obd hf
      refine ct_V (As := []) (rest := [.ref ae]) (wr := [(ak, .inr (0, [.ref ar])), (ar, .inl (y 0, nb, .inl bb))]) (wn := [(ae, .inr (1, [.int r_1, .int (r_71.toInt32), .int ew, .long ev])), (ak, .inr (0, [.ref ar])), (ar, .inl (y 0, nb, .inl bb))]) hfix (cX2_hasWell_ok l D y ae r_1 (r_71.toInt32) ew ev _ hc_77) (cwV 0 hts gX2_readFrom_X2_hasWell rfl rfl rfl (by decide +kernel) ⟨Nat.le_of_ble_eq_true rfl, Nat.le_of_ble_eq_true rfl⟩) E hP hD hS [0] [1, 2] [2, 0, 1] rfl rfl rfl rfl (by decide) rfl rfl 0 1 rfl rfl rfl hl.1 rfl (Nat.le_of_ble_eq_true rfl) dX2_readFrom_54 ⟨Nat.zero_le _, Nat.zero_le _⟩ (fun H locs hP hD hS => ?_)
      refine W.eq (g2 := F0 m 57 ls [.int (zb r_76), .ref ae]) rfl ?_
      refine lv_if_eq (tgt := 68) hx hb dX2_readFrom_57 (by decide) (fun c_78 => ?_) (fun c_78 => ?_)
      · have hf := ifp hf c_78
        refine lv_iconst (v := (0 : Int32)) hx hb dX2_readFrom_68 (by decide) ?_
        refine va_put (D := D) (ci := 1) (v := .int (0 : Int32)) (ty := .int) (C := RX2) (T := TX2) (N := 4) hx hb hts iX2 tyX2 tyX2_ok nmX2 hown hK hP hD hS 0 rfl rfl 2 (by decide) (hts (.fieldLink RX2 18 "SampleTracker$Entry" "well" "I") (by decide +kernel)) (fun _ h9 => h9) rfl (by decide +kernel) rfl rfl (Nat.le_of_ble_eq_true rfl) dX2_readFrom_69 (fun H locs hP hD hS => ?_)
        have hP : va_P D vwCl [(ae, .inr (1, [.int r_1, .int (r_71.toInt32), .int (0 : Int32), .long ev])), (ak, .inr (0, [.ref ar])), (ar, .inl (y 0, nb, .inl bb))] H := hP
        have hD : va_D A [(ae, .inr (1, [.int r_1, .int (r_71.toInt32), .int (0 : Int32), .long ev])), (ak, .inr (0, [.ref ar])), (ar, .inl (y 0, nb, .inl bb))] := hD
        refine lv_iload_n hx hb dX2_readFrom_72 rfl (lv_at hl 0 rfl) ?_
        refine lv_aload_n hx hb dX2_readFrom_73 rfl (lv_at hl 1 rfl) ?_
        obtain ⟨r_79, hc_80, hf⟩ := obd hf
        refine ct_V (As := []) (rest := [.int ((p2 + (3 : Int32)) + (0 : Int32))]) (wr := [(ak, .inr (0, [.ref ar])), (ar, .inl (y 0, nb, .inl bb))]) (wn := [(ae, .inr (1, [.int r_1, .int (r_71.toInt32), .int (0 : Int32), .long ev])), (ak, .inr (0, [.ref ar])), (ar, .inl (y 0, nb, .inl bb))]) hfix (cX2_hasWell_ok l D y ae r_1 (r_71.toInt32) (0 : Int32) ev _ hc_80) (cwV 0 hts gX2_readFrom_X2_hasWell rfl rfl rfl (by decide +kernel) ⟨Nat.le_of_ble_eq_true rfl, Nat.le_of_ble_eq_true rfl⟩) E hP hD hS [0] [1, 2] [2, 0, 1] rfl rfl rfl rfl (by decide) rfl rfl 0 1 rfl rfl rfl hl.1 rfl (Nat.le_of_ble_eq_true rfl) dX2_readFrom_74 ⟨Nat.zero_le _, Nat.zero_le _⟩ (fun H locs hP hD hS => ?_)
        refine W.eq (g2 := F0 m 77 ls [.int (zb r_79), .int ((p2 + (3 : Int32)) + (0 : Int32))]) rfl ?_
        refine lv_if_eq (tgt := 84) hx hb dX2_readFrom_77 (by decide) (fun c_81 => ?_) (fun c_81 => ?_)
        · have hf := ifp hf c_81
          refine lv_iconst (v := (0 : Int32)) hx hb dX2_readFrom_84 (by decide) ?_
          refine lv_iadd hx hb dX2_readFrom_85 ?_
          refine lv_istore_n (lv' := [(3, .int (((p2 + (3 : Int32)) + (0 : Int32)) + (0 : Int32))), (0, .ref ae), (1, .ref ak), (2, .int p2)]) hx hb dX2_readFrom_86 rfl hl (by decide) rfl (fun ls hl => ?_)
          refine lv_aload_n hx hb dX2_readFrom_87 rfl (lv_at hl 1 rfl) ?_
          refine lv_aload_n hx hb dX2_readFrom_88 rfl (lv_at hl 1 rfl) ?_
          obtain ⟨r_82, hc_83, hf⟩ := obd hf
          refine ct_V (As := []) (rest := [.ref ae]) (wr := [(ak, .inr (0, [.ref ar])), (ar, .inl (y 0, nb, .inl bb))]) (wn := [(ae, .inr (1, [.int r_1, .int (r_71.toInt32), .int (0 : Int32), .long ev])), (ak, .inr (0, [.ref ar])), (ar, .inl (y 0, nb, .inl bb))]) hfix (cX2_hasVolume_ok l D y ae r_1 (r_71.toInt32) (0 : Int32) ev _ hc_83) (cwV 0 hts gX2_readFrom_X2_hasVolume rfl rfl rfl (by decide +kernel) ⟨Nat.le_of_ble_eq_true rfl, Nat.le_of_ble_eq_true rfl⟩) E hP hD hS [0] [1, 2] [2, 0, 1] rfl rfl rfl rfl (by decide) rfl rfl 0 1 rfl rfl rfl hl.1 rfl (Nat.le_of_ble_eq_true rfl) dX2_readFrom_89 ⟨Nat.zero_le _, Nat.zero_le _⟩ (fun H locs hP hD hS => ?_)
          refine W.eq (g2 := F0 m 92 ls [.int (zb r_82), .ref ae]) rfl ?_
          refine lv_if_eq (tgt := 105) hx hb dX2_readFrom_92 (by decide) (fun c_84 => ?_) (fun c_84 => ?_)
          · have hf := ifp hf c_84
            refine lv_lconst (v := (0 : Int64)) hx hb dX2_readFrom_105 (by decide) ?_
            refine va_put (D := D) (ci := 1) (v := .long (0 : Int64)) (ty := .long) (C := RX2) (T := TX2) (N := 4) hx hb hts iX2 tyX2 tyX2_ok nmX2 hown hK hP hD hS 0 rfl rfl 3 (by decide) (hts (.fieldLink RX2 21 "SampleTracker$Entry" "volume" "J") (by decide +kernel)) (fun _ h9 => h9) rfl (by decide +kernel) rfl rfl (Nat.le_of_ble_eq_true rfl) dX2_readFrom_106 (fun H locs hP hD hS => ?_)
            have hP : va_P D vwCl [(ae, .inr (1, [.int r_1, .int (r_71.toInt32), .int (0 : Int32), .long (0 : Int64)])), (ak, .inr (0, [.ref ar])), (ar, .inl (y 0, nb, .inl bb))] H := hP
            have hD : va_D A [(ae, .inr (1, [.int r_1, .int (r_71.toInt32), .int (0 : Int32), .long (0 : Int64)])), (ak, .inr (0, [.ref ar])), (ar, .inl (y 0, nb, .inl bb))] := hD
            obtain rfl := Option.some.inj hf
            exact W.vret hx hb hr (fun t ht hW => ⟨⟨(), rfl, by rw [ht]; exact hP, hD⟩, hS.F ht⟩) hS.2.2 dX2_readFrom_109
          · have hf := ifn hf c_84
            refine lv_aload_n hx hb dX2_readFrom_95 rfl (lv_at hl 2 rfl) ?_
            refine lv_iload_n hx hb dX2_readFrom_96 rfl (lv_at hl 0 rfl) ?_
            refine lv_bipush (v := (8 : Int32)) hx hb dX2_readFrom_97 (by decide) ?_
            obtain ⟨r_85, hc_86, hf⟩ := obd hf
            refine ct_V (As := [.int (((p2 + (3 : Int32)) + (0 : Int32)) + (0 : Int32)), .int (8 : Int32)]) (rest := [.ref ae]) (wr := [(ae, .inr (1, [.int r_1, .int (r_71.toInt32), .int (0 : Int32), .long ev]))]) (wn := [(ae, .inr (1, [.int r_1, .int (r_71.toInt32), .int (0 : Int32), .long ev])), (ak, .inr (0, [.ref ar])), (ar, .inl (y 0, nb, .inl bb))]) hfix (cX0_number_ok l D y ak ar nb bb (((p2 + (3 : Int32)) + (0 : Int32)) + (0 : Int32)) (8 : Int32) _ hc_86) (cwV 2 hts gX2_readFrom_X0_number rfl rfl rfl (by decide +kernel) ⟨Nat.le_of_ble_eq_true rfl, Nat.le_of_ble_eq_true rfl⟩) E hP hD hS [1, 2] [0] [0, 1, 2] rfl rfl rfl rfl (by decide) rfl rfl 0 0 rfl rfl rfl hl.1 rfl (Nat.le_of_ble_eq_true rfl) dX2_readFrom_99 ⟨Nat.zero_le _, Nat.zero_le _⟩ (fun H locs hP hD hS => ?_)
            refine W.eq (g2 := F0 m 102 ls [.long r_85, .ref ae]) rfl ?_
            refine lv_goto (tgt := 106) hx hb dX2_readFrom_102 (by decide) ?_
            refine va_put (D := D) (ci := 1) (v := .long r_85) (ty := .long) (C := RX2) (T := TX2) (N := 4) hx hb hts iX2 tyX2 tyX2_ok nmX2 hown hK hP hD hS 0 rfl rfl 3 (by decide) (hts (.fieldLink RX2 21 "SampleTracker$Entry" "volume" "J") (by decide +kernel)) (fun _ h9 => h9) rfl (by decide +kernel) rfl rfl (Nat.le_of_ble_eq_true rfl) dX2_readFrom_106 (fun H locs hP hD hS => ?_)
            have hP : va_P D vwCl [(ae, .inr (1, [.int r_1, .int (r_71.toInt32), .int (0 : Int32), .long r_85])), (ak, .inr (0, [.ref ar])), (ar, .inl (y 0, nb, .inl bb))] H := hP
            have hD : va_D A [(ae, .inr (1, [.int r_1, .int (r_71.toInt32), .int (0 : Int32), .long r_85])), (ak, .inr (0, [.ref ar])), (ar, .inl (y 0, nb, .inl bb))] := hD
            obtain rfl := Option.some.inj hf
            exact W.vret hx hb hr (fun t ht hW => ⟨⟨(), rfl, by rw [ht]; exact hP, hD⟩, hS.F ht⟩) hS.2.2 dX2_readFrom_109
        · have hf := ifn hf c_81
          refine lv_iconst (v := (1 : Int32)) hx hb dX2_readFrom_80 (by decide) ?_
          refine lv_goto (tgt := 85) hx hb dX2_readFrom_81 (by decide) ?_
          refine lv_iadd hx hb dX2_readFrom_85 ?_
          refine lv_istore_n (lv' := [(3, .int (((p2 + (3 : Int32)) + (0 : Int32)) + (1 : Int32))), (0, .ref ae), (1, .ref ak), (2, .int p2)]) hx hb dX2_readFrom_86 rfl hl (by decide) rfl (fun ls hl => ?_)
          refine lv_aload_n hx hb dX2_readFrom_87 rfl (lv_at hl 1 rfl) ?_
          refine lv_aload_n hx hb dX2_readFrom_88 rfl (lv_at hl 1 rfl) ?_
          obtain ⟨r_87, hc_88, hf⟩ := obd hf
          refine ct_V (As := []) (rest := [.ref ae]) (wr := [(ak, .inr (0, [.ref ar])), (ar, .inl (y 0, nb, .inl bb))]) (wn := [(ae, .inr (1, [.int r_1, .int (r_71.toInt32), .int (0 : Int32), .long ev])), (ak, .inr (0, [.ref ar])), (ar, .inl (y 0, nb, .inl bb))]) hfix (cX2_hasVolume_ok l D y ae r_1 (r_71.toInt32) (0 : Int32) ev _ hc_88) (cwV 0 hts gX2_readFrom_X2_hasVolume rfl rfl rfl (by decide +kernel) ⟨Nat.le_of_ble_eq_true rfl, Nat.le_of_ble_eq_true rfl⟩) E hP hD hS [0] [1, 2] [2, 0, 1] rfl rfl rfl rfl (by decide) rfl rfl 0 1 rfl rfl rfl hl.1 rfl (Nat.le_of_ble_eq_true rfl) dX2_readFrom_89 ⟨Nat.zero_le _, Nat.zero_le _⟩ (fun H locs hP hD hS => ?_)
          refine W.eq (g2 := F0 m 92 ls [.int (zb r_87), .ref ae]) rfl ?_
          refine lv_if_eq (tgt := 105) hx hb dX2_readFrom_92 (by decide) (fun c_89 => ?_) (fun c_89 => ?_)
          · have hf := ifp hf c_89
            refine lv_lconst (v := (0 : Int64)) hx hb dX2_readFrom_105 (by decide) ?_
            refine va_put (D := D) (ci := 1) (v := .long (0 : Int64)) (ty := .long) (C := RX2) (T := TX2) (N := 4) hx hb hts iX2 tyX2 tyX2_ok nmX2 hown hK hP hD hS 0 rfl rfl 3 (by decide) (hts (.fieldLink RX2 21 "SampleTracker$Entry" "volume" "J") (by decide +kernel)) (fun _ h9 => h9) rfl (by decide +kernel) rfl rfl (Nat.le_of_ble_eq_true rfl) dX2_readFrom_106 (fun H locs hP hD hS => ?_)
            have hP : va_P D vwCl [(ae, .inr (1, [.int r_1, .int (r_71.toInt32), .int (0 : Int32), .long (0 : Int64)])), (ak, .inr (0, [.ref ar])), (ar, .inl (y 0, nb, .inl bb))] H := hP
            have hD : va_D A [(ae, .inr (1, [.int r_1, .int (r_71.toInt32), .int (0 : Int32), .long (0 : Int64)])), (ak, .inr (0, [.ref ar])), (ar, .inl (y 0, nb, .inl bb))] := hD
            obtain rfl := Option.some.inj hf
            exact W.vret hx hb hr (fun t ht hW => ⟨⟨(), rfl, by rw [ht]; exact hP, hD⟩, hS.F ht⟩) hS.2.2 dX2_readFrom_109
          · have hf := ifn hf c_89
            refine lv_aload_n hx hb dX2_readFrom_95 rfl (lv_at hl 2 rfl) ?_
            refine lv_iload_n hx hb dX2_readFrom_96 rfl (lv_at hl 0 rfl) ?_
            refine lv_bipush (v := (8 : Int32)) hx hb dX2_readFrom_97 (by decide) ?_
            obtain ⟨r_90, hc_91, hf⟩ := obd hf
            refine ct_V (As := [.int (((p2 + (3 : Int32)) + (0 : Int32)) + (1 : Int32)), .int (8 : Int32)]) (rest := [.ref ae]) (wr := [(ae, .inr (1, [.int r_1, .int (r_71.toInt32), .int (0 : Int32), .long ev]))]) (wn := [(ae, .inr (1, [.int r_1, .int (r_71.toInt32), .int (0 : Int32), .long ev])), (ak, .inr (0, [.ref ar])), (ar, .inl (y 0, nb, .inl bb))]) hfix (cX0_number_ok l D y ak ar nb bb (((p2 + (3 : Int32)) + (0 : Int32)) + (1 : Int32)) (8 : Int32) _ hc_91) (cwV 2 hts gX2_readFrom_X0_number rfl rfl rfl (by decide +kernel) ⟨Nat.le_of_ble_eq_true rfl, Nat.le_of_ble_eq_true rfl⟩) E hP hD hS [1, 2] [0] [0, 1, 2] rfl rfl rfl rfl (by decide) rfl rfl 0 0 rfl rfl rfl hl.1 rfl (Nat.le_of_ble_eq_true rfl) dX2_readFrom_99 ⟨Nat.zero_le _, Nat.zero_le _⟩ (fun H locs hP hD hS => ?_)
            refine W.eq (g2 := F0 m 102 ls [.long r_90, .ref ae]) rfl ?_
            refine lv_goto (tgt := 106) hx hb dX2_readFrom_102 (by decide) ?_
            refine va_put (D := D) (ci := 1) (v := .long r_90) (ty := .long) (C := RX2) (T := TX2) (N := 4) hx hb hts iX2 tyX2 tyX2_ok nmX2 hown hK hP hD hS 0 rfl rfl 3 (by decide) (hts (.fieldLink RX2 21 "SampleTracker$Entry" "volume" "J") (by decide +kernel)) (fun _ h9 => h9) rfl (by decide +kernel) rfl rfl (Nat.le_of_ble_eq_true rfl) dX2_readFrom_106 (fun H locs hP hD hS => ?_)
            have hP : va_P D vwCl [(ae, .inr (1, [.int r_1, .int (r_71.toInt32), .int (0 : Int32), .long r_90])), (ak, .inr (0, [.ref ar])), (ar, .inl (y 0, nb, .inl bb))] H := hP
            have hD : va_D A [(ae, .inr (1, [.int r_1, .int (r_71.toInt32), .int (0 : Int32), .long r_90])), (ak, .inr (0, [.ref ar])), (ar, .inl (y 0, nb, .inl bb))] := hD
            obtain rfl := Option.some.inj hf
            exact W.vret hx hb hr (fun t ht hW => ⟨⟨(), rfl, by rw [ht]; exact hP, hD⟩, hS.F ht⟩) hS.2.2 dX2_readFrom_109
      · have hf := ifn hf c_78
        refine lv_aload_n hx hb dX2_readFrom_60 rfl (lv_at hl 2 rfl) ?_
        refine lv_iload_n hx hb dX2_readFrom_61 rfl (lv_at hl 0 rfl) ?_
        obtain ⟨r_92, hc_93, hf⟩ := obd hf
        refine ct_V (As := [.int ((p2 + (3 : Int32)) + (0 : Int32))]) (rest := [.ref ae]) (wr := [(ae, .inr (1, [.int r_1, .int (r_71.toInt32), .int ew, .long ev]))]) (wn := [(ae, .inr (1, [.int r_1, .int (r_71.toInt32), .int ew, .long ev])), (ak, .inr (0, [.ref ar])), (ar, .inl (y 0, nb, .inl bb))]) hfix (cX0_at_ok l D y ak ar nb bb ((p2 + (3 : Int32)) + (0 : Int32)) _ hc_93) (cwV 1 hts gX2_readFrom_X0_at rfl rfl rfl (by decide +kernel) ⟨Nat.le_of_ble_eq_true rfl, Nat.le_of_ble_eq_true rfl⟩) E hP hD hS [1, 2] [0] [0, 1, 2] rfl rfl rfl rfl (by decide) rfl rfl 0 0 rfl rfl rfl hl.1 rfl (Nat.le_of_ble_eq_true rfl) dX2_readFrom_62 ⟨Nat.zero_le _, Nat.zero_le _⟩ (fun H locs hP hD hS => ?_)
        refine W.eq (g2 := F0 m 65 ls [.int r_92, .ref ae]) rfl ?_
        refine lv_goto (tgt := 69) hx hb dX2_readFrom_65 (by decide) ?_
        refine va_put (D := D) (ci := 1) (v := .int r_92) (ty := .int) (C := RX2) (T := TX2) (N := 4) hx hb hts iX2 tyX2 tyX2_ok nmX2 hown hK hP hD hS 0 rfl rfl 2 (by decide) (hts (.fieldLink RX2 18 "SampleTracker$Entry" "well" "I") (by decide +kernel)) (fun _ h9 => h9) rfl (by decide +kernel) rfl rfl (Nat.le_of_ble_eq_true rfl) dX2_readFrom_69 (fun H locs hP hD hS => ?_)
        have hP : va_P D vwCl [(ae, .inr (1, [.int r_1, .int (r_71.toInt32), .int r_92, .long ev])), (ak, .inr (0, [.ref ar])), (ar, .inl (y 0, nb, .inl bb))] H := hP
        have hD : va_D A [(ae, .inr (1, [.int r_1, .int (r_71.toInt32), .int r_92, .long ev])), (ak, .inr (0, [.ref ar])), (ar, .inl (y 0, nb, .inl bb))] := hD
        refine lv_iload_n hx hb dX2_readFrom_72 rfl (lv_at hl 0 rfl) ?_
        refine lv_aload_n hx hb dX2_readFrom_73 rfl (lv_at hl 1 rfl) ?_
        obtain ⟨r_94, hc_95, hf⟩ := obd hf
        refine ct_V (As := []) (rest := [.int ((p2 + (3 : Int32)) + (0 : Int32))]) (wr := [(ak, .inr (0, [.ref ar])), (ar, .inl (y 0, nb, .inl bb))]) (wn := [(ae, .inr (1, [.int r_1, .int (r_71.toInt32), .int r_92, .long ev])), (ak, .inr (0, [.ref ar])), (ar, .inl (y 0, nb, .inl bb))]) hfix (cX2_hasWell_ok l D y ae r_1 (r_71.toInt32) r_92 ev _ hc_95) (cwV 0 hts gX2_readFrom_X2_hasWell rfl rfl rfl (by decide +kernel) ⟨Nat.le_of_ble_eq_true rfl, Nat.le_of_ble_eq_true rfl⟩) E hP hD hS [0] [1, 2] [2, 0, 1] rfl rfl rfl rfl (by decide) rfl rfl 0 1 rfl rfl rfl hl.1 rfl (Nat.le_of_ble_eq_true rfl) dX2_readFrom_74 ⟨Nat.zero_le _, Nat.zero_le _⟩ (fun H locs hP hD hS => ?_)
        refine W.eq (g2 := F0 m 77 ls [.int (zb r_94), .int ((p2 + (3 : Int32)) + (0 : Int32))]) rfl ?_
        refine lv_if_eq (tgt := 84) hx hb dX2_readFrom_77 (by decide) (fun c_96 => ?_) (fun c_96 => ?_)
        · have hf := ifp hf c_96
          refine lv_iconst (v := (0 : Int32)) hx hb dX2_readFrom_84 (by decide) ?_
          refine lv_iadd hx hb dX2_readFrom_85 ?_
          refine lv_istore_n (lv' := [(3, .int (((p2 + (3 : Int32)) + (0 : Int32)) + (0 : Int32))), (0, .ref ae), (1, .ref ak), (2, .int p2)]) hx hb dX2_readFrom_86 rfl hl (by decide) rfl (fun ls hl => ?_)
          refine lv_aload_n hx hb dX2_readFrom_87 rfl (lv_at hl 1 rfl) ?_
          refine lv_aload_n hx hb dX2_readFrom_88 rfl (lv_at hl 1 rfl) ?_
          obtain ⟨r_97, hc_98, hf⟩ := obd hf
          refine ct_V (As := []) (rest := [.ref ae]) (wr := [(ak, .inr (0, [.ref ar])), (ar, .inl (y 0, nb, .inl bb))]) (wn := [(ae, .inr (1, [.int r_1, .int (r_71.toInt32), .int r_92, .long ev])), (ak, .inr (0, [.ref ar])), (ar, .inl (y 0, nb, .inl bb))]) hfix (cX2_hasVolume_ok l D y ae r_1 (r_71.toInt32) r_92 ev _ hc_98) (cwV 0 hts gX2_readFrom_X2_hasVolume rfl rfl rfl (by decide +kernel) ⟨Nat.le_of_ble_eq_true rfl, Nat.le_of_ble_eq_true rfl⟩) E hP hD hS [0] [1, 2] [2, 0, 1] rfl rfl rfl rfl (by decide) rfl rfl 0 1 rfl rfl rfl hl.1 rfl (Nat.le_of_ble_eq_true rfl) dX2_readFrom_89 ⟨Nat.zero_le _, Nat.zero_le _⟩ (fun H locs hP hD hS => ?_)
          refine W.eq (g2 := F0 m 92 ls [.int (zb r_97), .ref ae]) rfl ?_
          refine lv_if_eq (tgt := 105) hx hb dX2_readFrom_92 (by decide) (fun c_99 => ?_) (fun c_99 => ?_)
          · have hf := ifp hf c_99
            refine lv_lconst (v := (0 : Int64)) hx hb dX2_readFrom_105 (by decide) ?_
            refine va_put (D := D) (ci := 1) (v := .long (0 : Int64)) (ty := .long) (C := RX2) (T := TX2) (N := 4) hx hb hts iX2 tyX2 tyX2_ok nmX2 hown hK hP hD hS 0 rfl rfl 3 (by decide) (hts (.fieldLink RX2 21 "SampleTracker$Entry" "volume" "J") (by decide +kernel)) (fun _ h9 => h9) rfl (by decide +kernel) rfl rfl (Nat.le_of_ble_eq_true rfl) dX2_readFrom_106 (fun H locs hP hD hS => ?_)
            have hP : va_P D vwCl [(ae, .inr (1, [.int r_1, .int (r_71.toInt32), .int r_92, .long (0 : Int64)])), (ak, .inr (0, [.ref ar])), (ar, .inl (y 0, nb, .inl bb))] H := hP
            have hD : va_D A [(ae, .inr (1, [.int r_1, .int (r_71.toInt32), .int r_92, .long (0 : Int64)])), (ak, .inr (0, [.ref ar])), (ar, .inl (y 0, nb, .inl bb))] := hD
            obtain rfl := Option.some.inj hf
            exact W.vret hx hb hr (fun t ht hW => ⟨⟨(), rfl, by rw [ht]; exact hP, hD⟩, hS.F ht⟩) hS.2.2 dX2_readFrom_109
          · have hf := ifn hf c_99
            refine lv_aload_n hx hb dX2_readFrom_95 rfl (lv_at hl 2 rfl) ?_
            refine lv_iload_n hx hb dX2_readFrom_96 rfl (lv_at hl 0 rfl) ?_
            refine lv_bipush (v := (8 : Int32)) hx hb dX2_readFrom_97 (by decide) ?_
            obtain ⟨r_100, hc_101, hf⟩ := obd hf
            refine ct_V (As := [.int (((p2 + (3 : Int32)) + (0 : Int32)) + (0 : Int32)), .int (8 : Int32)]) (rest := [.ref ae]) (wr := [(ae, .inr (1, [.int r_1, .int (r_71.toInt32), .int r_92, .long ev]))]) (wn := [(ae, .inr (1, [.int r_1, .int (r_71.toInt32), .int r_92, .long ev])), (ak, .inr (0, [.ref ar])), (ar, .inl (y 0, nb, .inl bb))]) hfix (cX0_number_ok l D y ak ar nb bb (((p2 + (3 : Int32)) + (0 : Int32)) + (0 : Int32)) (8 : Int32) _ hc_101) (cwV 2 hts gX2_readFrom_X0_number rfl rfl rfl (by decide +kernel) ⟨Nat.le_of_ble_eq_true rfl, Nat.le_of_ble_eq_true rfl⟩) E hP hD hS [1, 2] [0] [0, 1, 2] rfl rfl rfl rfl (by decide) rfl rfl 0 0 rfl rfl rfl hl.1 rfl (Nat.le_of_ble_eq_true rfl) dX2_readFrom_99 ⟨Nat.zero_le _, Nat.zero_le _⟩ (fun H locs hP hD hS => ?_)
            refine W.eq (g2 := F0 m 102 ls [.long r_100, .ref ae]) rfl ?_
            refine lv_goto (tgt := 106) hx hb dX2_readFrom_102 (by decide) ?_
            refine va_put (D := D) (ci := 1) (v := .long r_100) (ty := .long) (C := RX2) (T := TX2) (N := 4) hx hb hts iX2 tyX2 tyX2_ok nmX2 hown hK hP hD hS 0 rfl rfl 3 (by decide) (hts (.fieldLink RX2 21 "SampleTracker$Entry" "volume" "J") (by decide +kernel)) (fun _ h9 => h9) rfl (by decide +kernel) rfl rfl (Nat.le_of_ble_eq_true rfl) dX2_readFrom_106 (fun H locs hP hD hS => ?_)
            have hP : va_P D vwCl [(ae, .inr (1, [.int r_1, .int (r_71.toInt32), .int r_92, .long r_100])), (ak, .inr (0, [.ref ar])), (ar, .inl (y 0, nb, .inl bb))] H := hP
            have hD : va_D A [(ae, .inr (1, [.int r_1, .int (r_71.toInt32), .int r_92, .long r_100])), (ak, .inr (0, [.ref ar])), (ar, .inl (y 0, nb, .inl bb))] := hD
            obtain rfl := Option.some.inj hf
            exact W.vret hx hb hr (fun t ht hW => ⟨⟨(), rfl, by rw [ht]; exact hP, hD⟩, hS.F ht⟩) hS.2.2 dX2_readFrom_109
        · have hf := ifn hf c_96
          refine lv_iconst (v := (1 : Int32)) hx hb dX2_readFrom_80 (by decide) ?_
          refine lv_goto (tgt := 85) hx hb dX2_readFrom_81 (by decide) ?_
          refine lv_iadd hx hb dX2_readFrom_85 ?_
          refine lv_istore_n (lv' := [(3, .int (((p2 + (3 : Int32)) + (0 : Int32)) + (1 : Int32))), (0, .ref ae), (1, .ref ak), (2, .int p2)]) hx hb dX2_readFrom_86 rfl hl (by decide) rfl (fun ls hl => ?_)
          refine lv_aload_n hx hb dX2_readFrom_87 rfl (lv_at hl 1 rfl) ?_
          refine lv_aload_n hx hb dX2_readFrom_88 rfl (lv_at hl 1 rfl) ?_
          obtain ⟨r_102, hc_103, hf⟩ := obd hf
          refine ct_V (As := []) (rest := [.ref ae]) (wr := [(ak, .inr (0, [.ref ar])), (ar, .inl (y 0, nb, .inl bb))]) (wn := [(ae, .inr (1, [.int r_1, .int (r_71.toInt32), .int r_92, .long ev])), (ak, .inr (0, [.ref ar])), (ar, .inl (y 0, nb, .inl bb))]) hfix (cX2_hasVolume_ok l D y ae r_1 (r_71.toInt32) r_92 ev _ hc_103) (cwV 0 hts gX2_readFrom_X2_hasVolume rfl rfl rfl (by decide +kernel) ⟨Nat.le_of_ble_eq_true rfl, Nat.le_of_ble_eq_true rfl⟩) E hP hD hS [0] [1, 2] [2, 0, 1] rfl rfl rfl rfl (by decide) rfl rfl 0 1 rfl rfl rfl hl.1 rfl (Nat.le_of_ble_eq_true rfl) dX2_readFrom_89 ⟨Nat.zero_le _, Nat.zero_le _⟩ (fun H locs hP hD hS => ?_)
          refine W.eq (g2 := F0 m 92 ls [.int (zb r_102), .ref ae]) rfl ?_
          refine lv_if_eq (tgt := 105) hx hb dX2_readFrom_92 (by decide) (fun c_104 => ?_) (fun c_104 => ?_)
          · have hf := ifp hf c_104
            refine lv_lconst (v := (0 : Int64)) hx hb dX2_readFrom_105 (by decide) ?_
            refine va_put (D := D) (ci := 1) (v := .long (0 : Int64)) (ty := .long) (C := RX2) (T := TX2) (N := 4) hx hb hts iX2 tyX2 tyX2_ok nmX2 hown hK hP hD hS 0 rfl rfl 3 (by decide) (hts (.fieldLink RX2 21 "SampleTracker$Entry" "volume" "J") (by decide +kernel)) (fun _ h9 => h9) rfl (by decide +kernel) rfl rfl (Nat.le_of_ble_eq_true rfl) dX2_readFrom_106 (fun H locs hP hD hS => ?_)
            have hP : va_P D vwCl [(ae, .inr (1, [.int r_1, .int (r_71.toInt32), .int r_92, .long (0 : Int64)])), (ak, .inr (0, [.ref ar])), (ar, .inl (y 0, nb, .inl bb))] H := hP
            have hD : va_D A [(ae, .inr (1, [.int r_1, .int (r_71.toInt32), .int r_92, .long (0 : Int64)])), (ak, .inr (0, [.ref ar])), (ar, .inl (y 0, nb, .inl bb))] := hD
            obtain rfl := Option.some.inj hf
            exact W.vret hx hb hr (fun t ht hW => ⟨⟨(), rfl, by rw [ht]; exact hP, hD⟩, hS.F ht⟩) hS.2.2 dX2_readFrom_109
          · have hf := ifn hf c_104
            refine lv_aload_n hx hb dX2_readFrom_95 rfl (lv_at hl 2 rfl) ?_
            refine lv_iload_n hx hb dX2_readFrom_96 rfl (lv_at hl 0 rfl) ?_
            refine lv_bipush (v := (8 : Int32)) hx hb dX2_readFrom_97 (by decide) ?_
            obtain ⟨r_105, hc_106, hf⟩ := obd hf
            refine ct_V (As := [.int (((p2 + (3 : Int32)) + (0 : Int32)) + (1 : Int32)), .int (8 : Int32)]) (rest := [.ref ae]) (wr := [(ae, .inr (1, [.int r_1, .int (r_71.toInt32), .int r_92, .long ev]))]) (wn := [(ae, .inr (1, [.int r_1, .int (r_71.toInt32), .int r_92, .long ev])), (ak, .inr (0, [.ref ar])), (ar, .inl (y 0, nb, .inl bb))]) hfix (cX0_number_ok l D y ak ar nb bb (((p2 + (3 : Int32)) + (0 : Int32)) + (1 : Int32)) (8 : Int32) _ hc_106) (cwV 2 hts gX2_readFrom_X0_number rfl rfl rfl (by decide +kernel) ⟨Nat.le_of_ble_eq_true rfl, Nat.le_of_ble_eq_true rfl⟩) E hP hD hS [1, 2] [0] [0, 1, 2] rfl rfl rfl rfl (by decide) rfl rfl 0 0 rfl rfl rfl hl.1 rfl (Nat.le_of_ble_eq_true rfl) dX2_readFrom_99 ⟨Nat.zero_le _, Nat.zero_le _⟩ (fun H locs hP hD hS => ?_)
            refine W.eq (g2 := F0 m 102 ls [.long r_105, .ref ae]) rfl ?_
            refine lv_goto (tgt := 106) hx hb dX2_readFrom_102 (by decide) ?_
            refine va_put (D := D) (ci := 1) (v := .long r_105) (ty := .long) (C := RX2) (T := TX2) (N := 4) hx hb hts iX2 tyX2 tyX2_ok nmX2 hown hK hP hD hS 0 rfl rfl 3 (by decide) (hts (.fieldLink RX2 21 "SampleTracker$Entry" "volume" "J") (by decide +kernel)) (fun _ h9 => h9) rfl (by decide +kernel) rfl rfl (Nat.le_of_ble_eq_true rfl) dX2_readFrom_106 (fun H locs hP hD hS => ?_)
            have hP : va_P D vwCl [(ae, .inr (1, [.int r_1, .int (r_71.toInt32), .int r_92, .long r_105])), (ak, .inr (0, [.ref ar])), (ar, .inl (y 0, nb, .inl bb))] H := hP
            have hD : va_D A [(ae, .inr (1, [.int r_1, .int (r_71.toInt32), .int r_92, .long r_105])), (ak, .inr (0, [.ref ar])), (ar, .inl (y 0, nb, .inl bb))] := hD
            obtain rfl := Option.some.inj hf
            exact W.vret hx hb hr (fun t ht hW => ⟨⟨(), rfl, by rw [ht]; exact hP, hD⟩, hS.F ht⟩) hS.2.2 dX2_readFrom_109
    · have hf := ifn hf c_75
      refine lv_iconst (v := (2 : Int32)) hx hb dX2_readFrom_45 (by decide) ?_
      refine lv_goto (tgt := 50) hx hb dX2_readFrom_46 (by decide) ?_
      refine lv_iadd hx hb dX2_readFrom_50 ?_
      refine lv_istore_n (lv' := [(3, .int ((p2 + (3 : Int32)) + (2 : Int32))), (0, .ref ae), (1, .ref ak), (2, .int p2)]) hx hb dX2_readFrom_51 rfl hl (by decide) rfl (fun ls hl => ?_)
      refine lv_aload_n hx hb dX2_readFrom_52 rfl (lv_at hl 1 rfl) ?_
      refine lv_aload_n hx hb dX2_readFrom_53 rfl (lv_at hl 1 rfl) ?_
      obtain ⟨r_107, hc_108, hf⟩ := obd hf
      refine ct_V (As := []) (rest := [.ref ae]) (wr := [(ak, .inr (0, [.ref ar])), (ar, .inl (y 0, nb, .inl bb))]) (wn := [(ae, .inr (1, [.int r_1, .int (r_71.toInt32), .int ew, .long ev])), (ak, .inr (0, [.ref ar])), (ar, .inl (y 0, nb, .inl bb))]) hfix (cX2_hasWell_ok l D y ae r_1 (r_71.toInt32) ew ev _ hc_108) (cwV 0 hts gX2_readFrom_X2_hasWell rfl rfl rfl (by decide +kernel) ⟨Nat.le_of_ble_eq_true rfl, Nat.le_of_ble_eq_true rfl⟩) E hP hD hS [0] [1, 2] [2, 0, 1] rfl rfl rfl rfl (by decide) rfl rfl 0 1 rfl rfl rfl hl.1 rfl (Nat.le_of_ble_eq_true rfl) dX2_readFrom_54 ⟨Nat.zero_le _, Nat.zero_le _⟩ (fun H locs hP hD hS => ?_)
      refine W.eq (g2 := F0 m 57 ls [.int (zb r_107), .ref ae]) rfl ?_
      refine lv_if_eq (tgt := 68) hx hb dX2_readFrom_57 (by decide) (fun c_109 => ?_) (fun c_109 => ?_)
      · have hf := ifp hf c_109
        refine lv_iconst (v := (0 : Int32)) hx hb dX2_readFrom_68 (by decide) ?_
        refine va_put (D := D) (ci := 1) (v := .int (0 : Int32)) (ty := .int) (C := RX2) (T := TX2) (N := 4) hx hb hts iX2 tyX2 tyX2_ok nmX2 hown hK hP hD hS 0 rfl rfl 2 (by decide) (hts (.fieldLink RX2 18 "SampleTracker$Entry" "well" "I") (by decide +kernel)) (fun _ h9 => h9) rfl (by decide +kernel) rfl rfl (Nat.le_of_ble_eq_true rfl) dX2_readFrom_69 (fun H locs hP hD hS => ?_)
        have hP : va_P D vwCl [(ae, .inr (1, [.int r_1, .int (r_71.toInt32), .int (0 : Int32), .long ev])), (ak, .inr (0, [.ref ar])), (ar, .inl (y 0, nb, .inl bb))] H := hP
        have hD : va_D A [(ae, .inr (1, [.int r_1, .int (r_71.toInt32), .int (0 : Int32), .long ev])), (ak, .inr (0, [.ref ar])), (ar, .inl (y 0, nb, .inl bb))] := hD
        refine lv_iload_n hx hb dX2_readFrom_72 rfl (lv_at hl 0 rfl) ?_
        refine lv_aload_n hx hb dX2_readFrom_73 rfl (lv_at hl 1 rfl) ?_
        obtain ⟨r_110, hc_111, hf⟩ := obd hf
        refine ct_V (As := []) (rest := [.int ((p2 + (3 : Int32)) + (2 : Int32))]) (wr := [(ak, .inr (0, [.ref ar])), (ar, .inl (y 0, nb, .inl bb))]) (wn := [(ae, .inr (1, [.int r_1, .int (r_71.toInt32), .int (0 : Int32), .long ev])), (ak, .inr (0, [.ref ar])), (ar, .inl (y 0, nb, .inl bb))]) hfix (cX2_hasWell_ok l D y ae r_1 (r_71.toInt32) (0 : Int32) ev _ hc_111) (cwV 0 hts gX2_readFrom_X2_hasWell rfl rfl rfl (by decide +kernel) ⟨Nat.le_of_ble_eq_true rfl, Nat.le_of_ble_eq_true rfl⟩) E hP hD hS [0] [1, 2] [2, 0, 1] rfl rfl rfl rfl (by decide) rfl rfl 0 1 rfl rfl rfl hl.1 rfl (Nat.le_of_ble_eq_true rfl) dX2_readFrom_74 ⟨Nat.zero_le _, Nat.zero_le _⟩ (fun H locs hP hD hS => ?_)
        refine W.eq (g2 := F0 m 77 ls [.int (zb r_110), .int ((p2 + (3 : Int32)) + (2 : Int32))]) rfl ?_
        refine lv_if_eq (tgt := 84) hx hb dX2_readFrom_77 (by decide) (fun c_112 => ?_) (fun c_112 => ?_)
        · have hf := ifp hf c_112
          refine lv_iconst (v := (0 : Int32)) hx hb dX2_readFrom_84 (by decide) ?_
          refine lv_iadd hx hb dX2_readFrom_85 ?_
          refine lv_istore_n (lv' := [(3, .int (((p2 + (3 : Int32)) + (2 : Int32)) + (0 : Int32))), (0, .ref ae), (1, .ref ak), (2, .int p2)]) hx hb dX2_readFrom_86 rfl hl (by decide) rfl (fun ls hl => ?_)
          refine lv_aload_n hx hb dX2_readFrom_87 rfl (lv_at hl 1 rfl) ?_
          refine lv_aload_n hx hb dX2_readFrom_88 rfl (lv_at hl 1 rfl) ?_
          obtain ⟨r_113, hc_114, hf⟩ := obd hf
          refine ct_V (As := []) (rest := [.ref ae]) (wr := [(ak, .inr (0, [.ref ar])), (ar, .inl (y 0, nb, .inl bb))]) (wn := [(ae, .inr (1, [.int r_1, .int (r_71.toInt32), .int (0 : Int32), .long ev])), (ak, .inr (0, [.ref ar])), (ar, .inl (y 0, nb, .inl bb))]) hfix (cX2_hasVolume_ok l D y ae r_1 (r_71.toInt32) (0 : Int32) ev _ hc_114) (cwV 0 hts gX2_readFrom_X2_hasVolume rfl rfl rfl (by decide +kernel) ⟨Nat.le_of_ble_eq_true rfl, Nat.le_of_ble_eq_true rfl⟩) E hP hD hS [0] [1, 2] [2, 0, 1] rfl rfl rfl rfl (by decide) rfl rfl 0 1 rfl rfl rfl hl.1 rfl (Nat.le_of_ble_eq_true rfl) dX2_readFrom_89 ⟨Nat.zero_le _, Nat.zero_le _⟩ (fun H locs hP hD hS => ?_)
          refine W.eq (g2 := F0 m 92 ls [.int (zb r_113), .ref ae]) rfl ?_
          refine lv_if_eq (tgt := 105) hx hb dX2_readFrom_92 (by decide) (fun c_115 => ?_) (fun c_115 => ?_)
          · have hf := ifp hf c_115
            refine lv_lconst (v := (0 : Int64)) hx hb dX2_readFrom_105 (by decide) ?_
            refine va_put (D := D) (ci := 1) (v := .long (0 : Int64)) (ty := .long) (C := RX2) (T := TX2) (N := 4) hx hb hts iX2 tyX2 tyX2_ok nmX2 hown hK hP hD hS 0 rfl rfl 3 (by decide) (hts (.fieldLink RX2 21 "SampleTracker$Entry" "volume" "J") (by decide +kernel)) (fun _ h9 => h9) rfl (by decide +kernel) rfl rfl (Nat.le_of_ble_eq_true rfl) dX2_readFrom_106 (fun H locs hP hD hS => ?_)
            have hP : va_P D vwCl [(ae, .inr (1, [.int r_1, .int (r_71.toInt32), .int (0 : Int32), .long (0 : Int64)])), (ak, .inr (0, [.ref ar])), (ar, .inl (y 0, nb, .inl bb))] H := hP
            have hD : va_D A [(ae, .inr (1, [.int r_1, .int (r_71.toInt32), .int (0 : Int32), .long (0 : Int64)])), (ak, .inr (0, [.ref ar])), (ar, .inl (y 0, nb, .inl bb))] := hD
            obtain rfl := Option.some.inj hf
            exact W.vret hx hb hr (fun t ht hW => ⟨⟨(), rfl, by rw [ht]; exact hP, hD⟩, hS.F ht⟩) hS.2.2 dX2_readFrom_109
          · have hf := ifn hf c_115
            refine lv_aload_n hx hb dX2_readFrom_95 rfl (lv_at hl 2 rfl) ?_
            refine lv_iload_n hx hb dX2_readFrom_96 rfl (lv_at hl 0 rfl) ?_
            refine lv_bipush (v := (8 : Int32)) hx hb dX2_readFrom_97 (by decide) ?_
            obtain ⟨r_116, hc_117, hf⟩ := obd hf
            refine ct_V (As := [.int (((p2 + (3 : Int32)) + (2 : Int32)) + (0 : Int32)), .int (8 : Int32)]) (rest := [.ref ae]) (wr := [(ae, .inr (1, [.int r_1, .int (r_71.toInt32), .int (0 : Int32), .long ev]))]) (wn := [(ae, .inr (1, [.int r_1, .int (r_71.toInt32), .int (0 : Int32), .long ev])), (ak, .inr (0, [.ref ar])), (ar, .inl (y 0, nb, .inl bb))]) hfix (cX0_number_ok l D y ak ar nb bb (((p2 + (3 : Int32)) + (2 : Int32)) + (0 : Int32)) (8 : Int32) _ hc_117) (cwV 2 hts gX2_readFrom_X0_number rfl rfl rfl (by decide +kernel) ⟨Nat.le_of_ble_eq_true rfl, Nat.le_of_ble_eq_true rfl⟩) E hP hD hS [1, 2] [0] [0, 1, 2] rfl rfl rfl rfl (by decide) rfl rfl 0 0 rfl rfl rfl hl.1 rfl (Nat.le_of_ble_eq_true rfl) dX2_readFrom_99 ⟨Nat.zero_le _, Nat.zero_le _⟩ (fun H locs hP hD hS => ?_)
            refine W.eq (g2 := F0 m 102 ls [.long r_116, .ref ae]) rfl ?_
            refine lv_goto (tgt := 106) hx hb dX2_readFrom_102 (by decide) ?_
            refine va_put (D := D) (ci := 1) (v := .long r_116) (ty := .long) (C := RX2) (T := TX2) (N := 4) hx hb hts iX2 tyX2 tyX2_ok nmX2 hown hK hP hD hS 0 rfl rfl 3 (by decide) (hts (.fieldLink RX2 21 "SampleTracker$Entry" "volume" "J") (by decide +kernel)) (fun _ h9 => h9) rfl (by decide +kernel) rfl rfl (Nat.le_of_ble_eq_true rfl) dX2_readFrom_106 (fun H locs hP hD hS => ?_)
            have hP : va_P D vwCl [(ae, .inr (1, [.int r_1, .int (r_71.toInt32), .int (0 : Int32), .long r_116])), (ak, .inr (0, [.ref ar])), (ar, .inl (y 0, nb, .inl bb))] H := hP
            have hD : va_D A [(ae, .inr (1, [.int r_1, .int (r_71.toInt32), .int (0 : Int32), .long r_116])), (ak, .inr (0, [.ref ar])), (ar, .inl (y 0, nb, .inl bb))] := hD
            obtain rfl := Option.some.inj hf
            exact W.vret hx hb hr (fun t ht hW => ⟨⟨(), rfl, by rw [ht]; exact hP, hD⟩, hS.F ht⟩) hS.2.2 dX2_readFrom_109
        · have hf := ifn hf c_112
          refine lv_iconst (v := (1 : Int32)) hx hb dX2_readFrom_80 (by decide) ?_
          refine lv_goto (tgt := 85) hx hb dX2_readFrom_81 (by decide) ?_
          refine lv_iadd hx hb dX2_readFrom_85 ?_
          refine lv_istore_n (lv' := [(3, .int (((p2 + (3 : Int32)) + (2 : Int32)) + (1 : Int32))), (0, .ref ae), (1, .ref ak), (2, .int p2)]) hx hb dX2_readFrom_86 rfl hl (by decide) rfl (fun ls hl => ?_)
          refine lv_aload_n hx hb dX2_readFrom_87 rfl (lv_at hl 1 rfl) ?_
          refine lv_aload_n hx hb dX2_readFrom_88 rfl (lv_at hl 1 rfl) ?_
          obtain ⟨r_118, hc_119, hf⟩ := obd hf
          refine ct_V (As := []) (rest := [.ref ae]) (wr := [(ak, .inr (0, [.ref ar])), (ar, .inl (y 0, nb, .inl bb))]) (wn := [(ae, .inr (1, [.int r_1, .int (r_71.toInt32), .int (0 : Int32), .long ev])), (ak, .inr (0, [.ref ar])), (ar, .inl (y 0, nb, .inl bb))]) hfix (cX2_hasVolume_ok l D y ae r_1 (r_71.toInt32) (0 : Int32) ev _ hc_119) (cwV 0 hts gX2_readFrom_X2_hasVolume rfl rfl rfl (by decide +kernel) ⟨Nat.le_of_ble_eq_true rfl, Nat.le_of_ble_eq_true rfl⟩) E hP hD hS [0] [1, 2] [2, 0, 1] rfl rfl rfl rfl (by decide) rfl rfl 0 1 rfl rfl rfl hl.1 rfl (Nat.le_of_ble_eq_true rfl) dX2_readFrom_89 ⟨Nat.zero_le _, Nat.zero_le _⟩ (fun H locs hP hD hS => ?_)
          refine W.eq (g2 := F0 m 92 ls [.int (zb r_118), .ref ae]) rfl ?_
          refine lv_if_eq (tgt := 105) hx hb dX2_readFrom_92 (by decide) (fun c_120 => ?_) (fun c_120 => ?_)
          · have hf := ifp hf c_120
            refine lv_lconst (v := (0 : Int64)) hx hb dX2_readFrom_105 (by decide) ?_
            refine va_put (D := D) (ci := 1) (v := .long (0 : Int64)) (ty := .long) (C := RX2) (T := TX2) (N := 4) hx hb hts iX2 tyX2 tyX2_ok nmX2 hown hK hP hD hS 0 rfl rfl 3 (by decide) (hts (.fieldLink RX2 21 "SampleTracker$Entry" "volume" "J") (by decide +kernel)) (fun _ h9 => h9) rfl (by decide +kernel) rfl rfl (Nat.le_of_ble_eq_true rfl) dX2_readFrom_106 (fun H locs hP hD hS => ?_)
            have hP : va_P D vwCl [(ae, .inr (1, [.int r_1, .int (r_71.toInt32), .int (0 : Int32), .long (0 : Int64)])), (ak, .inr (0, [.ref ar])), (ar, .inl (y 0, nb, .inl bb))] H := hP
            have hD : va_D A [(ae, .inr (1, [.int r_1, .int (r_71.toInt32), .int (0 : Int32), .long (0 : Int64)])), (ak, .inr (0, [.ref ar])), (ar, .inl (y 0, nb, .inl bb))] := hD
            obtain rfl := Option.some.inj hf
            exact W.vret hx hb hr (fun t ht hW => ⟨⟨(), rfl, by rw [ht]; exact hP, hD⟩, hS.F ht⟩) hS.2.2 dX2_readFrom_109
          · have hf := ifn hf c_120
            refine lv_aload_n hx hb dX2_readFrom_95 rfl (lv_at hl 2 rfl) ?_
            refine lv_iload_n hx hb dX2_readFrom_96 rfl (lv_at hl 0 rfl) ?_
            refine lv_bipush (v := (8 : Int32)) hx hb dX2_readFrom_97 (by decide) ?_
            obtain ⟨r_121, hc_122, hf⟩ := obd hf
            refine ct_V (As := [.int (((p2 + (3 : Int32)) + (2 : Int32)) + (1 : Int32)), .int (8 : Int32)]) (rest := [.ref ae]) (wr := [(ae, .inr (1, [.int r_1, .int (r_71.toInt32), .int (0 : Int32), .long ev]))]) (wn := [(ae, .inr (1, [.int r_1, .int (r_71.toInt32), .int (0 : Int32), .long ev])), (ak, .inr (0, [.ref ar])), (ar, .inl (y 0, nb, .inl bb))]) hfix (cX0_number_ok l D y ak ar nb bb (((p2 + (3 : Int32)) + (2 : Int32)) + (1 : Int32)) (8 : Int32) _ hc_122) (cwV 2 hts gX2_readFrom_X0_number rfl rfl rfl (by decide +kernel) ⟨Nat.le_of_ble_eq_true rfl, Nat.le_of_ble_eq_true rfl⟩) E hP hD hS [1, 2] [0] [0, 1, 2] rfl rfl rfl rfl (by decide) rfl rfl 0 0 rfl rfl rfl hl.1 rfl (Nat.le_of_ble_eq_true rfl) dX2_readFrom_99 ⟨Nat.zero_le _, Nat.zero_le _⟩ (fun H locs hP hD hS => ?_)
            refine W.eq (g2 := F0 m 102 ls [.long r_121, .ref ae]) rfl ?_
            refine lv_goto (tgt := 106) hx hb dX2_readFrom_102 (by decide) ?_
            refine va_put (D := D) (ci := 1) (v := .long r_121) (ty := .long) (C := RX2) (T := TX2) (N := 4) hx hb hts iX2 tyX2 tyX2_ok nmX2 hown hK hP hD hS 0 rfl rfl 3 (by decide) (hts (.fieldLink RX2 21 "SampleTracker$Entry" "volume" "J") (by decide +kernel)) (fun _ h9 => h9) rfl (by decide +kernel) rfl rfl (Nat.le_of_ble_eq_true rfl) dX2_readFrom_106 (fun H locs hP hD hS => ?_)
            have hP : va_P D vwCl [(ae, .inr (1, [.int r_1, .int (r_71.toInt32), .int (0 : Int32), .long r_121])), (ak, .inr (0, [.ref ar])), (ar, .inl (y 0, nb, .inl bb))] H := hP
            have hD : va_D A [(ae, .inr (1, [.int r_1, .int (r_71.toInt32), .int (0 : Int32), .long r_121])), (ak, .inr (0, [.ref ar])), (ar, .inl (y 0, nb, .inl bb))] := hD
            obtain rfl := Option.some.inj hf
            exact W.vret hx hb hr (fun t ht hW => ⟨⟨(), rfl, by rw [ht]; exact hP, hD⟩, hS.F ht⟩) hS.2.2 dX2_readFrom_109
      · have hf := ifn hf c_109
        refine lv_aload_n hx hb dX2_readFrom_60 rfl (lv_at hl 2 rfl) ?_
        refine lv_iload_n hx hb dX2_readFrom_61 rfl (lv_at hl 0 rfl) ?_
        obtain ⟨r_123, hc_124, hf⟩ := obd hf
        refine ct_V (As := [.int ((p2 + (3 : Int32)) + (2 : Int32))]) (rest := [.ref ae]) (wr := [(ae, .inr (1, [.int r_1, .int (r_71.toInt32), .int ew, .long ev]))]) (wn := [(ae, .inr (1, [.int r_1, .int (r_71.toInt32), .int ew, .long ev])), (ak, .inr (0, [.ref ar])), (ar, .inl (y 0, nb, .inl bb))]) hfix (cX0_at_ok l D y ak ar nb bb ((p2 + (3 : Int32)) + (2 : Int32)) _ hc_124) (cwV 1 hts gX2_readFrom_X0_at rfl rfl rfl (by decide +kernel) ⟨Nat.le_of_ble_eq_true rfl, Nat.le_of_ble_eq_true rfl⟩) E hP hD hS [1, 2] [0] [0, 1, 2] rfl rfl rfl rfl (by decide) rfl rfl 0 0 rfl rfl rfl hl.1 rfl (Nat.le_of_ble_eq_true rfl) dX2_readFrom_62 ⟨Nat.zero_le _, Nat.zero_le _⟩ (fun H locs hP hD hS => ?_)
        refine W.eq (g2 := F0 m 65 ls [.int r_123, .ref ae]) rfl ?_
        refine lv_goto (tgt := 69) hx hb dX2_readFrom_65 (by decide) ?_
        refine va_put (D := D) (ci := 1) (v := .int r_123) (ty := .int) (C := RX2) (T := TX2) (N := 4) hx hb hts iX2 tyX2 tyX2_ok nmX2 hown hK hP hD hS 0 rfl rfl 2 (by decide) (hts (.fieldLink RX2 18 "SampleTracker$Entry" "well" "I") (by decide +kernel)) (fun _ h9 => h9) rfl (by decide +kernel) rfl rfl (Nat.le_of_ble_eq_true rfl) dX2_readFrom_69 (fun H locs hP hD hS => ?_)
        have hP : va_P D vwCl [(ae, .inr (1, [.int r_1, .int (r_71.toInt32), .int r_123, .long ev])), (ak, .inr (0, [.ref ar])), (ar, .inl (y 0, nb, .inl bb))] H := hP
        have hD : va_D A [(ae, .inr (1, [.int r_1, .int (r_71.toInt32), .int r_123, .long ev])), (ak, .inr (0, [.ref ar])), (ar, .inl (y 0, nb, .inl bb))] := hD
        refine lv_iload_n hx hb dX2_readFrom_72 rfl (lv_at hl 0 rfl) ?_
        refine lv_aload_n hx hb dX2_readFrom_73 rfl (lv_at hl 1 rfl) ?_
        obtain ⟨r_125, hc_126, hf⟩ := obd hf
        refine ct_V (As := []) (rest := [.int ((p2 + (3 : Int32)) + (2 : Int32))]) (wr := [(ak, .inr (0, [.ref ar])), (ar, .inl (y 0, nb, .inl bb))]) (wn := [(ae, .inr (1, [.int r_1, .int (r_71.toInt32), .int r_123, .long ev])), (ak, .inr (0, [.ref ar])), (ar, .inl (y 0, nb, .inl bb))]) hfix (cX2_hasWell_ok l D y ae r_1 (r_71.toInt32) r_123 ev _ hc_126) (cwV 0 hts gX2_readFrom_X2_hasWell rfl rfl rfl (by decide +kernel) ⟨Nat.le_of_ble_eq_true rfl, Nat.le_of_ble_eq_true rfl⟩) E hP hD hS [0] [1, 2] [2, 0, 1] rfl rfl rfl rfl (by decide) rfl rfl 0 1 rfl rfl rfl hl.1 rfl (Nat.le_of_ble_eq_true rfl) dX2_readFrom_74 ⟨Nat.zero_le _, Nat.zero_le _⟩ (fun H locs hP hD hS => ?_)
        refine W.eq (g2 := F0 m 77 ls [.int (zb r_125), .int ((p2 + (3 : Int32)) + (2 : Int32))]) rfl ?_
        refine lv_if_eq (tgt := 84) hx hb dX2_readFrom_77 (by decide) (fun c_127 => ?_) (fun c_127 => ?_)
        · have hf := ifp hf c_127
          refine lv_iconst (v := (0 : Int32)) hx hb dX2_readFrom_84 (by decide) ?_
          refine lv_iadd hx hb dX2_readFrom_85 ?_
          refine lv_istore_n (lv' := [(3, .int (((p2 + (3 : Int32)) + (2 : Int32)) + (0 : Int32))), (0, .ref ae), (1, .ref ak), (2, .int p2)]) hx hb dX2_readFrom_86 rfl hl (by decide) rfl (fun ls hl => ?_)
          refine lv_aload_n hx hb dX2_readFrom_87 rfl (lv_at hl 1 rfl) ?_
          refine lv_aload_n hx hb dX2_readFrom_88 rfl (lv_at hl 1 rfl) ?_
          obtain ⟨r_128, hc_129, hf⟩ := obd hf
          refine ct_V (As := []) (rest := [.ref ae]) (wr := [(ak, .inr (0, [.ref ar])), (ar, .inl (y 0, nb, .inl bb))]) (wn := [(ae, .inr (1, [.int r_1, .int (r_71.toInt32), .int r_123, .long ev])), (ak, .inr (0, [.ref ar])), (ar, .inl (y 0, nb, .inl bb))]) hfix (cX2_hasVolume_ok l D y ae r_1 (r_71.toInt32) r_123 ev _ hc_129) (cwV 0 hts gX2_readFrom_X2_hasVolume rfl rfl rfl (by decide +kernel) ⟨Nat.le_of_ble_eq_true rfl, Nat.le_of_ble_eq_true rfl⟩) E hP hD hS [0] [1, 2] [2, 0, 1] rfl rfl rfl rfl (by decide) rfl rfl 0 1 rfl rfl rfl hl.1 rfl (Nat.le_of_ble_eq_true rfl) dX2_readFrom_89 ⟨Nat.zero_le _, Nat.zero_le _⟩ (fun H locs hP hD hS => ?_)
          refine W.eq (g2 := F0 m 92 ls [.int (zb r_128), .ref ae]) rfl ?_
          refine lv_if_eq (tgt := 105) hx hb dX2_readFrom_92 (by decide) (fun c_130 => ?_) (fun c_130 => ?_)
          · have hf := ifp hf c_130
            refine lv_lconst (v := (0 : Int64)) hx hb dX2_readFrom_105 (by decide) ?_
            refine va_put (D := D) (ci := 1) (v := .long (0 : Int64)) (ty := .long) (C := RX2) (T := TX2) (N := 4) hx hb hts iX2 tyX2 tyX2_ok nmX2 hown hK hP hD hS 0 rfl rfl 3 (by decide) (hts (.fieldLink RX2 21 "SampleTracker$Entry" "volume" "J") (by decide +kernel)) (fun _ h9 => h9) rfl (by decide +kernel) rfl rfl (Nat.le_of_ble_eq_true rfl) dX2_readFrom_106 (fun H locs hP hD hS => ?_)
            have hP : va_P D vwCl [(ae, .inr (1, [.int r_1, .int (r_71.toInt32), .int r_123, .long (0 : Int64)])), (ak, .inr (0, [.ref ar])), (ar, .inl (y 0, nb, .inl bb))] H := hP
            have hD : va_D A [(ae, .inr (1, [.int r_1, .int (r_71.toInt32), .int r_123, .long (0 : Int64)])), (ak, .inr (0, [.ref ar])), (ar, .inl (y 0, nb, .inl bb))] := hD
            obtain rfl := Option.some.inj hf
            exact W.vret hx hb hr (fun t ht hW => ⟨⟨(), rfl, by rw [ht]; exact hP, hD⟩, hS.F ht⟩) hS.2.2 dX2_readFrom_109
          · have hf := ifn hf c_130
            refine lv_aload_n hx hb dX2_readFrom_95 rfl (lv_at hl 2 rfl) ?_
            refine lv_iload_n hx hb dX2_readFrom_96 rfl (lv_at hl 0 rfl) ?_
            refine lv_bipush (v := (8 : Int32)) hx hb dX2_readFrom_97 (by decide) ?_
            obtain ⟨r_131, hc_132, hf⟩ := obd hf
            refine ct_V (As := [.int (((p2 + (3 : Int32)) + (2 : Int32)) + (0 : Int32)), .int (8 : Int32)]) (rest := [.ref ae]) (wr := [(ae, .inr (1, [.int r_1, .int (r_71.toInt32), .int r_123, .long ev]))]) (wn := [(ae, .inr (1, [.int r_1, .int (r_71.toInt32), .int r_123, .long ev])), (ak, .inr (0, [.ref ar])), (ar, .inl (y 0, nb, .inl bb))]) hfix (cX0_number_ok l D y ak ar nb bb (((p2 + (3 : Int32)) + (2 : Int32)) + (0 : Int32)) (8 : Int32) _ hc_132) (cwV 2 hts gX2_readFrom_X0_number rfl rfl rfl (by decide +kernel) ⟨Nat.le_of_ble_eq_true rfl, Nat.le_of_ble_eq_true rfl⟩) E hP hD hS [1, 2] [0] [0, 1, 2] rfl rfl rfl rfl (by decide) rfl rfl 0 0 rfl rfl rfl hl.1 rfl (Nat.le_of_ble_eq_true rfl) dX2_readFrom_99 ⟨Nat.zero_le _, Nat.zero_le _⟩ (fun H locs hP hD hS => ?_)
            refine W.eq (g2 := F0 m 102 ls [.long r_131, .ref ae]) rfl ?_
            refine lv_goto (tgt := 106) hx hb dX2_readFrom_102 (by decide) ?_
            refine va_put (D := D) (ci := 1) (v := .long r_131) (ty := .long) (C := RX2) (T := TX2) (N := 4) hx hb hts iX2 tyX2 tyX2_ok nmX2 hown hK hP hD hS 0 rfl rfl 3 (by decide) (hts (.fieldLink RX2 21 "SampleTracker$Entry" "volume" "J") (by decide +kernel)) (fun _ h9 => h9) rfl (by decide +kernel) rfl rfl (Nat.le_of_ble_eq_true rfl) dX2_readFrom_106 (fun H locs hP hD hS => ?_)
            have hP : va_P D vwCl [(ae, .inr (1, [.int r_1, .int (r_71.toInt32), .int r_123, .long r_131])), (ak, .inr (0, [.ref ar])), (ar, .inl (y 0, nb, .inl bb))] H := hP
            have hD : va_D A [(ae, .inr (1, [.int r_1, .int (r_71.toInt32), .int r_123, .long r_131])), (ak, .inr (0, [.ref ar])), (ar, .inl (y 0, nb, .inl bb))] := hD
            obtain rfl := Option.some.inj hf
            exact W.vret hx hb hr (fun t ht hW => ⟨⟨(), rfl, by rw [ht]; exact hP, hD⟩, hS.F ht⟩) hS.2.2 dX2_readFrom_109
        · have hf := ifn hf c_127
          refine lv_iconst (v := (1 : Int32)) hx hb dX2_readFrom_80 (by decide) ?_
          refine lv_goto (tgt := 85) hx hb dX2_readFrom_81 (by decide) ?_
          refine lv_iadd hx hb dX2_readFrom_85 ?_
          refine lv_istore_n (lv' := [(3, .int (((p2 + (3 : Int32)) + (2 : Int32)) + (1 : Int32))), (0, .ref ae), (1, .ref ak), (2, .int p2)]) hx hb dX2_readFrom_86 rfl hl (by decide) rfl (fun ls hl => ?_)
          refine lv_aload_n hx hb dX2_readFrom_87 rfl (lv_at hl 1 rfl) ?_
          refine lv_aload_n hx hb dX2_readFrom_88 rfl (lv_at hl 1 rfl) ?_
          obtain ⟨r_133, hc_134, hf⟩ := obd hf
          refine ct_V (As := []) (rest := [.ref ae]) (wr := [(ak, .inr (0, [.ref ar])), (ar, .inl (y 0, nb, .inl bb))]) (wn := [(ae, .inr (1, [.int r_1, .int (r_71.toInt32), .int r_123, .long ev])), (ak, .inr (0, [.ref ar])), (ar, .inl (y 0, nb, .inl bb))]) hfix (cX2_hasVolume_ok l D y ae r_1 (r_71.toInt32) r_123 ev _ hc_134) (cwV 0 hts gX2_readFrom_X2_hasVolume rfl rfl rfl (by decide +kernel) ⟨Nat.le_of_ble_eq_true rfl, Nat.le_of_ble_eq_true rfl⟩) E hP hD hS [0] [1, 2] [2, 0, 1] rfl rfl rfl rfl (by decide) rfl rfl 0 1 rfl rfl rfl hl.1 rfl (Nat.le_of_ble_eq_true rfl) dX2_readFrom_89 ⟨Nat.zero_le _, Nat.zero_le _⟩ (fun H locs hP hD hS => ?_)
          refine W.eq (g2 := F0 m 92 ls [.int (zb r_133), .ref ae]) rfl ?_
          refine lv_if_eq (tgt := 105) hx hb dX2_readFrom_92 (by decide) (fun c_135 => ?_) (fun c_135 => ?_)
          · have hf := ifp hf c_135
            refine lv_lconst (v := (0 : Int64)) hx hb dX2_readFrom_105 (by decide) ?_
            refine va_put (D := D) (ci := 1) (v := .long (0 : Int64)) (ty := .long) (C := RX2) (T := TX2) (N := 4) hx hb hts iX2 tyX2 tyX2_ok nmX2 hown hK hP hD hS 0 rfl rfl 3 (by decide) (hts (.fieldLink RX2 21 "SampleTracker$Entry" "volume" "J") (by decide +kernel)) (fun _ h9 => h9) rfl (by decide +kernel) rfl rfl (Nat.le_of_ble_eq_true rfl) dX2_readFrom_106 (fun H locs hP hD hS => ?_)
            have hP : va_P D vwCl [(ae, .inr (1, [.int r_1, .int (r_71.toInt32), .int r_123, .long (0 : Int64)])), (ak, .inr (0, [.ref ar])), (ar, .inl (y 0, nb, .inl bb))] H := hP
            have hD : va_D A [(ae, .inr (1, [.int r_1, .int (r_71.toInt32), .int r_123, .long (0 : Int64)])), (ak, .inr (0, [.ref ar])), (ar, .inl (y 0, nb, .inl bb))] := hD
            obtain rfl := Option.some.inj hf
            exact W.vret hx hb hr (fun t ht hW => ⟨⟨(), rfl, by rw [ht]; exact hP, hD⟩, hS.F ht⟩) hS.2.2 dX2_readFrom_109
          · have hf := ifn hf c_135
            refine lv_aload_n hx hb dX2_readFrom_95 rfl (lv_at hl 2 rfl) ?_
            refine lv_iload_n hx hb dX2_readFrom_96 rfl (lv_at hl 0 rfl) ?_
            refine lv_bipush (v := (8 : Int32)) hx hb dX2_readFrom_97 (by decide) ?_
            obtain ⟨r_136, hc_137, hf⟩ := obd hf
            refine ct_V (As := [.int (((p2 + (3 : Int32)) + (2 : Int32)) + (1 : Int32)), .int (8 : Int32)]) (rest := [.ref ae]) (wr := [(ae, .inr (1, [.int r_1, .int (r_71.toInt32), .int r_123, .long ev]))]) (wn := [(ae, .inr (1, [.int r_1, .int (r_71.toInt32), .int r_123, .long ev])), (ak, .inr (0, [.ref ar])), (ar, .inl (y 0, nb, .inl bb))]) hfix (cX0_number_ok l D y ak ar nb bb (((p2 + (3 : Int32)) + (2 : Int32)) + (1 : Int32)) (8 : Int32) _ hc_137) (cwV 2 hts gX2_readFrom_X0_number rfl rfl rfl (by decide +kernel) ⟨Nat.le_of_ble_eq_true rfl, Nat.le_of_ble_eq_true rfl⟩) E hP hD hS [1, 2] [0] [0, 1, 2] rfl rfl rfl rfl (by decide) rfl rfl 0 0 rfl rfl rfl hl.1 rfl (Nat.le_of_ble_eq_true rfl) dX2_readFrom_99 ⟨Nat.zero_le _, Nat.zero_le _⟩ (fun H locs hP hD hS => ?_)
            refine W.eq (g2 := F0 m 102 ls [.long r_136, .ref ae]) rfl ?_
            refine lv_goto (tgt := 106) hx hb dX2_readFrom_102 (by decide) ?_
            refine va_put (D := D) (ci := 1) (v := .long r_136) (ty := .long) (C := RX2) (T := TX2) (N := 4) hx hb hts iX2 tyX2 tyX2_ok nmX2 hown hK hP hD hS 0 rfl rfl 3 (by decide) (hts (.fieldLink RX2 21 "SampleTracker$Entry" "volume" "J") (by decide +kernel)) (fun _ h9 => h9) rfl (by decide +kernel) rfl rfl (Nat.le_of_ble_eq_true rfl) dX2_readFrom_106 (fun H locs hP hD hS => ?_)
            have hP : va_P D vwCl [(ae, .inr (1, [.int r_1, .int (r_71.toInt32), .int r_123, .long r_136])), (ak, .inr (0, [.ref ar])), (ar, .inl (y 0, nb, .inl bb))] H := hP
            have hD : va_D A [(ae, .inr (1, [.int r_1, .int (r_71.toInt32), .int r_123, .long r_136])), (ak, .inr (0, [.ref ar])), (ar, .inl (y 0, nb, .inl bb))] := hD
            obtain rfl := Option.some.inj hf
            exact W.vret hx hb hr (fun t ht hW => ⟨⟨(), rfl, by rw [ht]; exact hP, hD⟩, hS.F ht⟩) hS.2.2 dX2_readFrom_109

set_option maxHeartbeats 4000000 in
set_option maxRecDepth 100000 in
theorem cX4_size_ok (l : Launch) (D : va_G) (y : Nat → ClassId) (aq : Nat) (u0 : Nat) (u1 : Nat) (u2 : Nat) (u3 : Nat) (u4 : Nat) (qs : Nat → Int32) (ql : Nat → Int64) (qt : Nat → Int32) (qw : Nat → Int32) (qv : Nat → Int64) (qn : Int32) : CT l D y yX4_size wsX4_size ({ frames := 0, cells := 0, slots := 0, locals := 0 } : Room) [.ref aq] [(aq, .inr (3, [.ref u0, .ref u1, .ref u2, .ref u3, .ref u4, .int qn])), (u0, .inl (y 1, 256, .inl qs)), (u1, .inl (y 2, 256, .inr (.inl ql))), (u2, .inl (y 1, 256, .inl qt)), (u3, .inl (y 1, 256, .inl qw)), (u4, .inl (y 2, 256, .inr (.inl qv)))] (some (.int qn)) [(aq, .inr (3, [.ref u0, .ref u1, .ref u2, .ref u3, .ref u4, .int qn])), (u0, .inl (y 1, 256, .inl qs)), (u1, .inl (y 2, 256, .inr (.inl ql))), (u2, .inl (y 1, 256, .inl qt)), (u3, .inl (y 1, 256, .inl qw)), (u4, .inl (y 2, 256, .inr (.inl qv)))] := by
  intro sz
  refine Met.ofW (cc := cX4_size) (maxL := 1) (ret := (some .int)) (by decide) rfl ?_
  intro p e s m args below meth c s₁ B hml hv
  obtain ⟨rfl, hsz, hP, hK, hD0, hst, hno⟩ := hv
  have hx := B.exec
  have hb := B.bytes
  have hr := B.returns
  have hts := atoms_spec (ws := wsX4_size) B.pre
  have hown : s.vm.findClass RX4 = some m.cls := findClass_of_methodNamed B.named
  have hlocks := B.notSynchronized
  subst hsz
  have hD := hD0.self (sz := s.heap.size)
  generalize hAe : va_A [(aq, .inr (3, [.ref u0, .ref u1, .ref u2, .ref u3, .ref u4, .int qn])), (u0, .inl (y 1, 256, .inl qs)), (u1, .inl (y 2, 256, .inr (.inl ql))), (u2, .inl (y 1, 256, .inl qt)), (u3, .inl (y 1, 256, .inl qw)), (u4, .inl (y 2, 256, .inr (.inl qv)))] s.heap.size = A at hD hst ⊢
  have hA : ∀ q : Nat, s.heap.size ≤ q → A q := fun q h => by rw [← hAe]; exact Or.inr h
  have hS : va_S A s.heap s.heap [] := va_S.rf
  have E : Ev D y A s := ⟨hK, hst, hno, hA⟩
  have hfix : CallFix p m c cX4_size 1 s _ wsX4_size RX4 := ⟨hx, hb, hml, hown, hts⟩
  have hP : va_P D vwCl [(aq, .inr (3, [.ref u0, .ref u1, .ref u2, .ref u3, .ref u4, .int qn])), (u0, .inl (y 1, 256, .inl qs)), (u1, .inl (y 2, 256, .inr (.inl ql))), (u2, .inl (y 1, 256, .inl qt)), (u3, .inl (y 1, 256, .inl qw)), (u4, .inl (y 2, 256, .inr (.inl qv)))] s.heap := hP
  have iX4 : ∀ w ∈ wsX40, w ∈ wsX4_size := by decide +kernel
  have hl := lv_entry ([.ref aq]) (n := 1) (Nat.le_of_ble_eq_true rfl)
  rw [lg_entry_eq]
  generalize (lg_sl ([.ref aq]) ++ List.replicate (1 - (lg_sl ([.ref aq])).length) Slot.unset).toArray = ls at hl ⊢
  have hl : lv_has ls 1 [(0, .ref aq)] := hl
  refine lv_aload_n hx hb dX4_size_0 rfl (lv_at hl 0 rfl) ?_
  refine va_get (D := D) (ci := 3) (v := .int qn) (C := RX4) (T := TX4) (N := 6) hx hb hts iX4 hown hK hP 0 rfl rfl 5 (by decide) (hts (.fieldLink RX4 28 "SampleTracker$Past" "size" "I") (by decide +kernel)) (fun _ h9 => h9) rfl dX4_size_1 ?_
  exact W.iret hx hb hr (fun t ht hW => ⟨⟨(), rfl, by rw [ht]; exact hP, hD⟩, hS.F ht⟩) hS.2.2 dX4_size_4

set_option maxHeartbeats 4000000 in
set_option maxRecDepth 100000 in
theorem cX4_forget_ok (l : Launch) (D : va_G) (y : Nat → ClassId) (aq : Nat) (u0 : Nat) (u1 : Nat) (u2 : Nat) (u3 : Nat) (u4 : Nat) (qs : Nat → Int32) (ql : Nat → Int64) (qt : Nat → Int32) (qw : Nat → Int32) (qv : Nat → Int64) (qn : Int32) : CT l D y yX4_forget wsX4_forget ({ frames := 0, cells := 0, slots := 0, locals := 0 } : Room) [.ref aq] [(aq, .inr (3, [.ref u0, .ref u1, .ref u2, .ref u3, .ref u4, .int qn])), (u0, .inl (y 1, 256, .inl qs)), (u1, .inl (y 2, 256, .inr (.inl ql))), (u2, .inl (y 1, 256, .inl qt)), (u3, .inl (y 1, 256, .inl qw)), (u4, .inl (y 2, 256, .inr (.inl qv)))] (none) [(aq, .inr (3, [.ref u0, .ref u1, .ref u2, .ref u3, .ref u4, .int (0 : Int32)])), (u0, .inl (y 1, 256, .inl qs)), (u1, .inl (y 2, 256, .inr (.inl ql))), (u2, .inl (y 1, 256, .inl qt)), (u3, .inl (y 1, 256, .inl qw)), (u4, .inl (y 2, 256, .inr (.inl qv)))] := by
  intro sz
  refine Met.ofW (cc := cX4_forget) (maxL := 1) (ret := none) (by decide) rfl ?_
  intro p e s m args below meth c s₁ B hml hv
  obtain ⟨rfl, hsz, hP, hK, hD0, hst, hno⟩ := hv
  have hx := B.exec
  have hb := B.bytes
  have hr := B.returns
  have hts := atoms_spec (ws := wsX4_forget) B.pre
  have hown : s.vm.findClass RX4 = some m.cls := findClass_of_methodNamed B.named
  have hlocks := B.notSynchronized
  subst hsz
  have hD := hD0.self (sz := s.heap.size)
  generalize hAe : va_A [(aq, .inr (3, [.ref u0, .ref u1, .ref u2, .ref u3, .ref u4, .int qn])), (u0, .inl (y 1, 256, .inl qs)), (u1, .inl (y 2, 256, .inr (.inl ql))), (u2, .inl (y 1, 256, .inl qt)), (u3, .inl (y 1, 256, .inl qw)), (u4, .inl (y 2, 256, .inr (.inl qv)))] s.heap.size = A at hD hst ⊢
  have hA : ∀ q : Nat, s.heap.size ≤ q → A q := fun q h => by rw [← hAe]; exact Or.inr h
  have hS : va_S A s.heap s.heap [] := va_S.rf
  have E : Ev D y A s := ⟨hK, hst, hno, hA⟩
  have hfix : CallFix p m c cX4_forget 1 s _ wsX4_forget RX4 := ⟨hx, hb, hml, hown, hts⟩
  have hP : va_P D vwCl [(aq, .inr (3, [.ref u0, .ref u1, .ref u2, .ref u3, .ref u4, .int qn])), (u0, .inl (y 1, 256, .inl qs)), (u1, .inl (y 2, 256, .inr (.inl ql))), (u2, .inl (y 1, 256, .inl qt)), (u3, .inl (y 1, 256, .inl qw)), (u4, .inl (y 2, 256, .inr (.inl qv)))] s.heap := hP
  have iX4 : ∀ w ∈ wsX40, w ∈ wsX4_forget := by decide +kernel
  have hl := lv_entry ([.ref aq]) (n := 1) (Nat.le_of_ble_eq_true rfl)
  rw [lg_entry_eq]
  generalize (lg_sl ([.ref aq]) ++ List.replicate (1 - (lg_sl ([.ref aq])).length) Slot.unset).toArray = ls at hl ⊢
  have hl : lv_has ls 1 [(0, .ref aq)] := hl
  refine lv_aload_n hx hb dX4_forget_0 rfl (lv_at hl 0 rfl) ?_
  refine lv_iconst (v := (0 : Int32)) hx hb dX4_forget_1 (by decide) ?_
  refine va_put (D := D) (ci := 3) (v := .int (0 : Int32)) (ty := .int) (C := RX4) (T := TX4) (N := 6) hx hb hts iX4 tyX4 tyX4_ok nmX4 hown hK hP hD hS 0 rfl rfl 5 (by decide) (hts (.fieldLink RX4 28 "SampleTracker$Past" "size" "I") (by decide +kernel)) (fun _ h9 => h9) rfl (by decide +kernel) rfl rfl (Nat.le_of_ble_eq_true rfl) dX4_forget_2 (fun H locs hP hD hS => ?_)
  have hP : va_P D vwCl [(aq, .inr (3, [.ref u0, .ref u1, .ref u2, .ref u3, .ref u4, .int (0 : Int32)])), (u0, .inl (y 1, 256, .inl qs)), (u1, .inl (y 2, 256, .inr (.inl ql))), (u2, .inl (y 1, 256, .inl qt)), (u3, .inl (y 1, 256, .inl qw)), (u4, .inl (y 2, 256, .inr (.inl qv)))] H := hP
  have hD : va_D A [(aq, .inr (3, [.ref u0, .ref u1, .ref u2, .ref u3, .ref u4, .int (0 : Int32)])), (u0, .inl (y 1, 256, .inl qs)), (u1, .inl (y 2, 256, .inr (.inl ql))), (u2, .inl (y 1, 256, .inl qt)), (u3, .inl (y 1, 256, .inl qw)), (u4, .inl (y 2, 256, .inr (.inl qv)))] := hD
  exact W.vret hx hb hr (fun t ht hW => ⟨⟨(), rfl, by rw [ht]; exact hP, hD⟩, hS.F ht⟩) hS.2.2 dX4_forget_5

def fX4_add (qs : Nat → Int32) (ql : Nat → Int64) (qt : Nat → Int32) (qw : Nat → Int32) (qv : Nat → Int64) (qn : Int32) (p1 : Int32) (p2 : Int64) (p3 : Int32) (p4 : Int32) (p5 : Int64) : Option ((Nat → Int32) × (Nat → Int64) × (Nat → Int32) × (Nat → Int32) × (Nat → Int64) × Int32) := (if (256 : Int32) ≤ qn then some (qs, ql, qt, qw, qv, qn) else (if (ib qn 256) = true then some ((upd qs qn.toNatClampNeg p1), (vp_updL ql qn.toNatClampNeg p2), (upd qt qn.toNatClampNeg p3), (upd qw qn.toNatClampNeg p4), (vp_updL qv qn.toNatClampNeg p5), (qn + (1 : Int32))) else none))

set_option maxHeartbeats 4000000 in
set_option maxRecDepth 100000 in
theorem cX4_add_ok (l : Launch) (D : va_G) (y : Nat → ClassId) (aq : Nat) (u0 : Nat) (u1 : Nat) (u2 : Nat) (u3 : Nat) (u4 : Nat) (qs : Nat → Int32) (ql : Nat → Int64) (qt : Nat → Int32) (qw : Nat → Int32) (qv : Nat → Int64) (qn : Int32) (p1 : Int32) (p2 : Int64) (p3 : Int32) (p4 : Int32) (p5 : Int64) (res : (Nat → Int32) × (Nat → Int64) × (Nat → Int32) × (Nat → Int32) × (Nat → Int64) × Int32) (hf : fX4_add qs ql qt qw qv qn p1 p2 p3 p4 p5 = some res) : CT l D y yX4_add wsX4_add ({ frames := 0, cells := 0, slots := 0, locals := 0 } : Room) [.ref aq, .int p1, .long p2, .int p3, .int p4, .long p5] [(aq, .inr (3, [.ref u0, .ref u1, .ref u2, .ref u3, .ref u4, .int qn])), (u0, .inl (y 1, 256, .inl qs)), (u1, .inl (y 2, 256, .inr (.inl ql))), (u2, .inl (y 1, 256, .inl qt)), (u3, .inl (y 1, 256, .inl qw)), (u4, .inl (y 2, 256, .inr (.inl qv)))] (none) [(aq, .inr (3, [.ref u0, .ref u1, .ref u2, .ref u3, .ref u4, .int res.2.2.2.2.2])), (u0, .inl (y 1, 256, .inl res.1)), (u1, .inl (y 2, 256, .inr (.inl res.2.1))), (u2, .inl (y 1, 256, .inl res.2.2.1)), (u3, .inl (y 1, 256, .inl res.2.2.2.1)), (u4, .inl (y 2, 256, .inr (.inl res.2.2.2.2.1)))] := by
  intro sz
  refine Met.ofW (cc := cX4_add) (maxL := 8) (ret := none) (by decide) rfl ?_
  intro p e s m args below meth c s₁ B hml hv
  obtain ⟨rfl, hsz, hP, hK, hD0, hst, hno⟩ := hv
  have hx := B.exec
  have hb := B.bytes
  have hr := B.returns
  have hts := atoms_spec (ws := wsX4_add) B.pre
  have hown : s.vm.findClass RX4 = some m.cls := findClass_of_methodNamed B.named
  have hlocks := B.notSynchronized
  subst hsz
  have hD := hD0.self (sz := s.heap.size)
  generalize hAe : va_A [(aq, .inr (3, [.ref u0, .ref u1, .ref u2, .ref u3, .ref u4, .int qn])), (u0, .inl (y 1, 256, .inl qs)), (u1, .inl (y 2, 256, .inr (.inl ql))), (u2, .inl (y 1, 256, .inl qt)), (u3, .inl (y 1, 256, .inl qw)), (u4, .inl (y 2, 256, .inr (.inl qv)))] s.heap.size = A at hD hst ⊢
  have hA : ∀ q : Nat, s.heap.size ≤ q → A q := fun q h => by rw [← hAe]; exact Or.inr h
  have hS : va_S A s.heap s.heap [] := va_S.rf
  have E : Ev D y A s := ⟨hK, hst, hno, hA⟩
  have hfix : CallFix p m c cX4_add 8 s _ wsX4_add RX4 := ⟨hx, hb, hml, hown, hts⟩
  have hP : va_P D vwCl [(aq, .inr (3, [.ref u0, .ref u1, .ref u2, .ref u3, .ref u4, .int qn])), (u0, .inl (y 1, 256, .inl qs)), (u1, .inl (y 2, 256, .inr (.inl ql))), (u2, .inl (y 1, 256, .inl qt)), (u3, .inl (y 1, 256, .inl qw)), (u4, .inl (y 2, 256, .inr (.inl qv)))] s.heap := hP
  have iX4 : ∀ w ∈ wsX40, w ∈ wsX4_add := by decide +kernel
  have hl := lv_entry ([.ref aq, .int p1, .long p2, .int p3, .int p4, .long p5]) (n := 8) (Nat.le_of_ble_eq_true rfl)
  rw [lg_entry_eq]
  generalize (lg_sl ([.ref aq, .int p1, .long p2, .int p3, .int p4, .long p5]) ++ List.replicate (8 - (lg_sl ([.ref aq, .int p1, .long p2, .int p3, .int p4, .long p5])).length) Slot.unset).toArray = ls at hl ⊢
  have hl : lv_has ls 8 [(0, .ref aq), (1, .int p1), (2, .long p2), (4, .int p3), (5, .int p4), (6, .long p5)] := hl
  unfold fX4_add at hf
  refine lv_aload_n hx hb dX4_add_0 rfl (lv_at hl 0 rfl) ?_
  refine va_get (D := D) (ci := 3) (v := .int qn) (C := RX4) (T := TX4) (N := 6) hx hb hts iX4 hown hK hP 0 rfl rfl 5 (by decide) (hts (.fieldLink RX4 28 "SampleTracker$Past" "size" "I") (by decide +kernel)) (fun _ h9 => h9) rfl dX4_add_1 ?_
  refine lv_sipush (v := (256 : Int32)) hx hb dX4_add_4 (by decide) ?_
  refine lv_icmp_ge (tgt := 73) hx hb dX4_add_7 (by decide) (fun c_1 => ?_) (fun c_1 => ?_)
  · have hf := ifp hf c_1
    obtain rfl := Option.some.inj hf
    exact W.vret hx hb hr (fun t ht hW => ⟨⟨(), rfl, by rw [ht]; exact hP, hD⟩, hS.F ht⟩) hS.2.2 dX4_add_73
  · have hf := ifn hf c_1
    refine lv_aload_n hx hb dX4_add_10 rfl (lv_at hl 0 rfl) ?_
    refine va_get (D := D) (ci := 3) (v := .ref u0) (C := RX4) (T := TX4) (N := 6) hx hb hts iX4 hown hK hP 0 rfl rfl 0 (by decide) (hts (.fieldLink RX4 9 "SampleTracker$Past" "samples" "[I") (by decide +kernel)) (fun _ h9 => h9) rfl dX4_add_11 ?_
    refine lv_aload_n hx hb dX4_add_14 rfl (lv_at hl 0 rfl) ?_
    refine va_get (D := D) (ci := 3) (v := .int qn) (C := RX4) (T := TX4) (N := 6) hx hb hts iX4 hown hK hP 0 rfl rfl 5 (by decide) (hts (.fieldLink RX4 28 "SampleTracker$Past" "size" "I") (by decide +kernel)) (fun _ h9 => h9) rfl dX4_add_15 ?_
    refine lv_iload_n hx hb dX4_add_18 rfl (lv_at hl 1 rfl) ?_
    obtain ⟨h_2, hf⟩ := ibk hf
    refine va_iast hx hb hK hP hD hS 1 1 rfl rfl (ib_in h_2) dX4_add_19 (fun H locs hP hD hS => ?_)
    have hP : va_P D vwCl [(aq, .inr (3, [.ref u0, .ref u1, .ref u2, .ref u3, .ref u4, .int qn])), (u0, .inl (y 1, 256, .inl (upd qs qn.toNatClampNeg p1))), (u1, .inl (y 2, 256, .inr (.inl ql))), (u2, .inl (y 1, 256, .inl qt)), (u3, .inl (y 1, 256, .inl qw)), (u4, .inl (y 2, 256, .inr (.inl qv)))] H := hP
    have hD : va_D A [(aq, .inr (3, [.ref u0, .ref u1, .ref u2, .ref u3, .ref u4, .int qn])), (u0, .inl (y 1, 256, .inl (upd qs qn.toNatClampNeg p1))), (u1, .inl (y 2, 256, .inr (.inl ql))), (u2, .inl (y 1, 256, .inl qt)), (u3, .inl (y 1, 256, .inl qw)), (u4, .inl (y 2, 256, .inr (.inl qv)))] := hD
    refine lv_aload_n hx hb dX4_add_20 rfl (lv_at hl 0 rfl) ?_
    refine va_get (D := D) (ci := 3) (v := .ref u1) (C := RX4) (T := TX4) (N := 6) hx hb hts iX4 hown hK hP 0 rfl rfl 1 (by decide) (hts (.fieldLink RX4 15 "SampleTracker$Past" "lost" "[J") (by decide +kernel)) (fun _ h9 => h9) rfl dX4_add_21 ?_
    refine lv_aload_n hx hb dX4_add_24 rfl (lv_at hl 0 rfl) ?_
    refine va_get (D := D) (ci := 3) (v := .int qn) (C := RX4) (T := TX4) (N := 6) hx hb hts iX4 hown hK hP 0 rfl rfl 5 (by decide) (hts (.fieldLink RX4 28 "SampleTracker$Past" "size" "I") (by decide +kernel)) (fun _ h9 => h9) rfl dX4_add_25 ?_
    refine lv_lload_n hx hb dX4_add_28 rfl (lv_at hl 2 rfl) ?_
    refine va_last hx hb hK hP hD hS 2 2 rfl rfl (ib_in h_2) dX4_add_29 (fun H locs hP hD hS => ?_)
    have hP : va_P D vwCl [(aq, .inr (3, [.ref u0, .ref u1, .ref u2, .ref u3, .ref u4, .int qn])), (u0, .inl (y 1, 256, .inl (upd qs qn.toNatClampNeg p1))), (u1, .inl (y 2, 256, .inr (.inl (vp_updL ql qn.toNatClampNeg p2)))), (u2, .inl (y 1, 256, .inl qt)), (u3, .inl (y 1, 256, .inl qw)), (u4, .inl (y 2, 256, .inr (.inl qv)))] H := hP
    have hD : va_D A [(aq, .inr (3, [.ref u0, .ref u1, .ref u2, .ref u3, .ref u4, .int qn])), (u0, .inl (y 1, 256, .inl (upd qs qn.toNatClampNeg p1))), (u1, .inl (y 2, 256, .inr (.inl (vp_updL ql qn.toNatClampNeg p2)))), (u2, .inl (y 1, 256, .inl qt)), (u3, .inl (y 1, 256, .inl qw)), (u4, .inl (y 2, 256, .inr (.inl qv)))] := hD
    refine lv_aload_n hx hb dX4_add_30 rfl (lv_at hl 0 rfl) ?_
    refine va_get (D := D) (ci := 3) (v := .ref u2) (C := RX4) (T := TX4) (N := 6) hx hb hts iX4 hown hK hP 0 rfl rfl 2 (by decide) (hts (.fieldLink RX4 19 "SampleTracker$Past" "touched" "[I") (by decide +kernel)) (fun _ h9 => h9) rfl dX4_add_31 ?_
    refine lv_aload_n hx hb dX4_add_34 rfl (lv_at hl 0 rfl) ?_
    refine va_get (D := D) (ci := 3) (v := .int qn) (C := RX4) (T := TX4) (N := 6) hx hb hts iX4 hown hK hP 0 rfl rfl 5 (by decide) (hts (.fieldLink RX4 28 "SampleTracker$Past" "size" "I") (by decide +kernel)) (fun _ h9 => h9) rfl dX4_add_35 ?_
    refine lv_iload hx hb dX4_add_38 (lv_at hl 3 rfl) ?_
    refine va_iast hx hb hK hP hD hS 3 1 rfl rfl (ib_in h_2) dX4_add_40 (fun H locs hP hD hS => ?_)
    have hP : va_P D vwCl [(aq, .inr (3, [.ref u0, .ref u1, .ref u2, .ref u3, .ref u4, .int qn])), (u0, .inl (y 1, 256, .inl (upd qs qn.toNatClampNeg p1))), (u1, .inl (y 2, 256, .inr (.inl (vp_updL ql qn.toNatClampNeg p2)))), (u2, .inl (y 1, 256, .inl (upd qt qn.toNatClampNeg p3))), (u3, .inl (y 1, 256, .inl qw)), (u4, .inl (y 2, 256, .inr (.inl qv)))] H := hP
    have hD : va_D A [(aq, .inr (3, [.ref u0, .ref u1, .ref u2, .ref u3, .ref u4, .int qn])), (u0, .inl (y 1, 256, .inl (upd qs qn.toNatClampNeg p1))), (u1, .inl (y 2, 256, .inr (.inl (vp_updL ql qn.toNatClampNeg p2)))), (u2, .inl (y 1, 256, .inl (upd qt qn.toNatClampNeg p3))), (u3, .inl (y 1, 256, .inl qw)), (u4, .inl (y 2, 256, .inr (.inl qv)))] := hD
    refine lv_aload_n hx hb dX4_add_41 rfl (lv_at hl 0 rfl) ?_
    refine va_get (D := D) (ci := 3) (v := .ref u3) (C := RX4) (T := TX4) (N := 6) hx hb hts iX4 hown hK hP 0 rfl rfl 3 (by decide) (hts (.fieldLink RX4 22 "SampleTracker$Past" "wells" "[I") (by decide +kernel)) (fun _ h9 => h9) rfl dX4_add_42 ?_
    refine lv_aload_n hx hb dX4_add_45 rfl (lv_at hl 0 rfl) ?_
    refine va_get (D := D) (ci := 3) (v := .int qn) (C := RX4) (T := TX4) (N := 6) hx hb hts iX4 hown hK hP 0 rfl rfl 5 (by decide) (hts (.fieldLink RX4 28 "SampleTracker$Past" "size" "I") (by decide +kernel)) (fun _ h9 => h9) rfl dX4_add_46 ?_
    refine lv_iload hx hb dX4_add_49 (lv_at hl 4 rfl) ?_
    refine va_iast hx hb hK hP hD hS 4 1 rfl rfl (ib_in h_2) dX4_add_51 (fun H locs hP hD hS => ?_)
    have hP : va_P D vwCl [(aq, .inr (3, [.ref u0, .ref u1, .ref u2, .ref u3, .ref u4, .int qn])), (u0, .inl (y 1, 256, .inl (upd qs qn.toNatClampNeg p1))), (u1, .inl (y 2, 256, .inr (.inl (vp_updL ql qn.toNatClampNeg p2)))), (u2, .inl (y 1, 256, .inl (upd qt qn.toNatClampNeg p3))), (u3, .inl (y 1, 256, .inl (upd qw qn.toNatClampNeg p4))), (u4, .inl (y 2, 256, .inr (.inl qv)))] H := hP
    have hD : va_D A [(aq, .inr (3, [.ref u0, .ref u1, .ref u2, .ref u3, .ref u4, .int qn])), (u0, .inl (y 1, 256, .inl (upd qs qn.toNatClampNeg p1))), (u1, .inl (y 2, 256, .inr (.inl (vp_updL ql qn.toNatClampNeg p2)))), (u2, .inl (y 1, 256, .inl (upd qt qn.toNatClampNeg p3))), (u3, .inl (y 1, 256, .inl (upd qw qn.toNatClampNeg p4))), (u4, .inl (y 2, 256, .inr (.inl qv)))] := hD
    refine lv_aload_n hx hb dX4_add_52 rfl (lv_at hl 0 rfl) ?_
    refine va_get (D := D) (ci := 3) (v := .ref u4) (C := RX4) (T := TX4) (N := 6) hx hb hts iX4 hown hK hP 0 rfl rfl 4 (by decide) (hts (.fieldLink RX4 25 "SampleTracker$Past" "volumes" "[J") (by decide +kernel)) (fun _ h9 => h9) rfl dX4_add_53 ?_
    refine lv_aload_n hx hb dX4_add_56 rfl (lv_at hl 0 rfl) ?_
    refine va_get (D := D) (ci := 3) (v := .int qn) (C := RX4) (T := TX4) (N := 6) hx hb hts iX4 hown hK hP 0 rfl rfl 5 (by decide) (hts (.fieldLink RX4 28 "SampleTracker$Past" "size" "I") (by decide +kernel)) (fun _ h9 => h9) rfl dX4_add_57 ?_
    refine lv_lload hx hb dX4_add_60 (lv_at hl 5 rfl) ?_
    refine va_last hx hb hK hP hD hS 5 2 rfl rfl (ib_in h_2) dX4_add_62 (fun H locs hP hD hS => ?_)
    have hP : va_P D vwCl [(aq, .inr (3, [.ref u0, .ref u1, .ref u2, .ref u3, .ref u4, .int qn])), (u0, .inl (y 1, 256, .inl (upd qs qn.toNatClampNeg p1))), (u1, .inl (y 2, 256, .inr (.inl (vp_updL ql qn.toNatClampNeg p2)))), (u2, .inl (y 1, 256, .inl (upd qt qn.toNatClampNeg p3))), (u3, .inl (y 1, 256, .inl (upd qw qn.toNatClampNeg p4))), (u4, .inl (y 2, 256, .inr (.inl (vp_updL qv qn.toNatClampNeg p5))))] H := hP
    have hD : va_D A [(aq, .inr (3, [.ref u0, .ref u1, .ref u2, .ref u3, .ref u4, .int qn])), (u0, .inl (y 1, 256, .inl (upd qs qn.toNatClampNeg p1))), (u1, .inl (y 2, 256, .inr (.inl (vp_updL ql qn.toNatClampNeg p2)))), (u2, .inl (y 1, 256, .inl (upd qt qn.toNatClampNeg p3))), (u3, .inl (y 1, 256, .inl (upd qw qn.toNatClampNeg p4))), (u4, .inl (y 2, 256, .inr (.inl (vp_updL qv qn.toNatClampNeg p5))))] := hD
    refine lv_aload_n hx hb dX4_add_63 rfl (lv_at hl 0 rfl) ?_
    refine lv_dup hx hb dX4_add_64 rfl ?_
    refine va_get (D := D) (ci := 3) (v := .int qn) (C := RX4) (T := TX4) (N := 6) hx hb hts iX4 hown hK hP 0 rfl rfl 5 (by decide) (hts (.fieldLink RX4 28 "SampleTracker$Past" "size" "I") (by decide +kernel)) (fun _ h9 => h9) rfl dX4_add_65 ?_
    refine lv_iconst (v := (1 : Int32)) hx hb dX4_add_68 (by decide) ?_
    refine lv_iadd hx hb dX4_add_69 ?_
    refine va_put (D := D) (ci := 3) (v := .int (qn + (1 : Int32))) (ty := .int) (C := RX4) (T := TX4) (N := 6) hx hb hts iX4 tyX4 tyX4_ok nmX4 hown hK hP hD hS 0 rfl rfl 5 (by decide) (hts (.fieldLink RX4 28 "SampleTracker$Past" "size" "I") (by decide +kernel)) (fun _ h9 => h9) rfl (by decide +kernel) rfl rfl (Nat.le_of_ble_eq_true rfl) dX4_add_70 (fun H locs hP hD hS => ?_)
    have hP : va_P D vwCl [(aq, .inr (3, [.ref u0, .ref u1, .ref u2, .ref u3, .ref u4, .int (qn + (1 : Int32))])), (u0, .inl (y 1, 256, .inl (upd qs qn.toNatClampNeg p1))), (u1, .inl (y 2, 256, .inr (.inl (vp_updL ql qn.toNatClampNeg p2)))), (u2, .inl (y 1, 256, .inl (upd qt qn.toNatClampNeg p3))), (u3, .inl (y 1, 256, .inl (upd qw qn.toNatClampNeg p4))), (u4, .inl (y 2, 256, .inr (.inl (vp_updL qv qn.toNatClampNeg p5))))] H := hP
    have hD : va_D A [(aq, .inr (3, [.ref u0, .ref u1, .ref u2, .ref u3, .ref u4, .int (qn + (1 : Int32))])), (u0, .inl (y 1, 256, .inl (upd qs qn.toNatClampNeg p1))), (u1, .inl (y 2, 256, .inr (.inl (vp_updL ql qn.toNatClampNeg p2)))), (u2, .inl (y 1, 256, .inl (upd qt qn.toNatClampNeg p3))), (u3, .inl (y 1, 256, .inl (upd qw qn.toNatClampNeg p4))), (u4, .inl (y 2, 256, .inr (.inl (vp_updL qv qn.toNatClampNeg p5))))] := hD
    obtain rfl := Option.some.inj hf
    exact W.vret hx hb hr (fun t ht hW => ⟨⟨(), rfl, by rw [ht]; exact hP, hD⟩, hS.F ht⟩) hS.2.2 dX4_add_73

def fX4_stepBack (qn : Int32) : Option (Bool × Int32) := (if qn = 0 then some (false, qn) else some (true, (qn - (1 : Int32))))

set_option maxHeartbeats 4000000 in
set_option maxRecDepth 100000 in
theorem cX4_stepBack_ok (l : Launch) (D : va_G) (y : Nat → ClassId) (aq : Nat) (u0 : Nat) (u1 : Nat) (u2 : Nat) (u3 : Nat) (u4 : Nat) (qs : Nat → Int32) (ql : Nat → Int64) (qt : Nat → Int32) (qw : Nat → Int32) (qv : Nat → Int64) (qn : Int32) (res : Bool × Int32) (hf : fX4_stepBack qn = some res) : CT l D y yX4_stepBack wsX4_stepBack ({ frames := 0, cells := 0, slots := 0, locals := 0 } : Room) [.ref aq] [(aq, .inr (3, [.ref u0, .ref u1, .ref u2, .ref u3, .ref u4, .int qn])), (u0, .inl (y 1, 256, .inl qs)), (u1, .inl (y 2, 256, .inr (.inl ql))), (u2, .inl (y 1, 256, .inl qt)), (u3, .inl (y 1, 256, .inl qw)), (u4, .inl (y 2, 256, .inr (.inl qv)))] (some (.int (zb res.1))) [(aq, .inr (3, [.ref u0, .ref u1, .ref u2, .ref u3, .ref u4, .int res.2])), (u0, .inl (y 1, 256, .inl qs)), (u1, .inl (y 2, 256, .inr (.inl ql))), (u2, .inl (y 1, 256, .inl qt)), (u3, .inl (y 1, 256, .inl qw)), (u4, .inl (y 2, 256, .inr (.inl qv)))] := by
  intro sz
  refine Met.ofW (cc := cX4_stepBack) (maxL := 1) (ret := (some .boolean)) (by decide) rfl ?_
  intro p e s m args below meth c s₁ B hml hv
  obtain ⟨rfl, hsz, hP, hK, hD0, hst, hno⟩ := hv
  have hx := B.exec
  have hb := B.bytes
  have hr := B.returns
  have hts := atoms_spec (ws := wsX4_stepBack) B.pre
  have hown : s.vm.findClass RX4 = some m.cls := findClass_of_methodNamed B.named
  have hlocks := B.notSynchronized
  subst hsz
  have hD := hD0.self (sz := s.heap.size)
  generalize hAe : va_A [(aq, .inr (3, [.ref u0, .ref u1, .ref u2, .ref u3, .ref u4, .int qn])), (u0, .inl (y 1, 256, .inl qs)), (u1, .inl (y 2, 256, .inr (.inl ql))), (u2, .inl (y 1, 256, .inl qt)), (u3, .inl (y 1, 256, .inl qw)), (u4, .inl (y 2, 256, .inr (.inl qv)))] s.heap.size = A at hD hst ⊢
  have hA : ∀ q : Nat, s.heap.size ≤ q → A q := fun q h => by rw [← hAe]; exact Or.inr h
  have hS : va_S A s.heap s.heap [] := va_S.rf
  have E : Ev D y A s := ⟨hK, hst, hno, hA⟩
  have hfix : CallFix p m c cX4_stepBack 1 s _ wsX4_stepBack RX4 := ⟨hx, hb, hml, hown, hts⟩
  have hP : va_P D vwCl [(aq, .inr (3, [.ref u0, .ref u1, .ref u2, .ref u3, .ref u4, .int qn])), (u0, .inl (y 1, 256, .inl qs)), (u1, .inl (y 2, 256, .inr (.inl ql))), (u2, .inl (y 1, 256, .inl qt)), (u3, .inl (y 1, 256, .inl qw)), (u4, .inl (y 2, 256, .inr (.inl qv)))] s.heap := hP
  have iX4 : ∀ w ∈ wsX40, w ∈ wsX4_stepBack := by decide +kernel
  have hl := lv_entry ([.ref aq]) (n := 1) (Nat.le_of_ble_eq_true rfl)
  rw [lg_entry_eq]
  generalize (lg_sl ([.ref aq]) ++ List.replicate (1 - (lg_sl ([.ref aq])).length) Slot.unset).toArray = ls at hl ⊢
  have hl : lv_has ls 1 [(0, .ref aq)] := hl
  unfold fX4_stepBack at hf
  refine lv_aload_n hx hb dX4_stepBack_0 rfl (lv_at hl 0 rfl) ?_
  refine va_get (D := D) (ci := 3) (v := .int qn) (C := RX4) (T := TX4) (N := 6) hx hb hts iX4 hown hK hP 0 rfl rfl 5 (by decide) (hts (.fieldLink RX4 28 "SampleTracker$Past" "size" "I") (by decide +kernel)) (fun _ h9 => h9) rfl dX4_stepBack_1 ?_
  refine lv_if_ne (tgt := 9) hx hb dX4_stepBack_4 (by decide) (fun c_1 => ?_) (fun c_1 => ?_)
  · have hf := ifn hf c_1
    refine lv_aload_n hx hb dX4_stepBack_9 rfl (lv_at hl 0 rfl) ?_
    refine lv_dup hx hb dX4_stepBack_10 rfl ?_
    refine va_get (D := D) (ci := 3) (v := .int qn) (C := RX4) (T := TX4) (N := 6) hx hb hts iX4 hown hK hP 0 rfl rfl 5 (by decide) (hts (.fieldLink RX4 28 "SampleTracker$Past" "size" "I") (by decide +kernel)) (fun _ h9 => h9) rfl dX4_stepBack_11 ?_
    refine lv_iconst (v := (1 : Int32)) hx hb dX4_stepBack_14 (by decide) ?_
    refine lv_isub hx hb dX4_stepBack_15 ?_
    refine va_put (D := D) (ci := 3) (v := .int (qn - (1 : Int32))) (ty := .int) (C := RX4) (T := TX4) (N := 6) hx hb hts iX4 tyX4 tyX4_ok nmX4 hown hK hP hD hS 0 rfl rfl 5 (by decide) (hts (.fieldLink RX4 28 "SampleTracker$Past" "size" "I") (by decide +kernel)) (fun _ h9 => h9) rfl (by decide +kernel) rfl rfl (Nat.le_of_ble_eq_true rfl) dX4_stepBack_16 (fun H locs hP hD hS => ?_)
    have hP : va_P D vwCl [(aq, .inr (3, [.ref u0, .ref u1, .ref u2, .ref u3, .ref u4, .int (qn - (1 : Int32))])), (u0, .inl (y 1, 256, .inl qs)), (u1, .inl (y 2, 256, .inr (.inl ql))), (u2, .inl (y 1, 256, .inl qt)), (u3, .inl (y 1, 256, .inl qw)), (u4, .inl (y 2, 256, .inr (.inl qv)))] H := hP
    have hD : va_D A [(aq, .inr (3, [.ref u0, .ref u1, .ref u2, .ref u3, .ref u4, .int (qn - (1 : Int32))])), (u0, .inl (y 1, 256, .inl qs)), (u1, .inl (y 2, 256, .inr (.inl ql))), (u2, .inl (y 1, 256, .inl qt)), (u3, .inl (y 1, 256, .inl qw)), (u4, .inl (y 2, 256, .inr (.inl qv)))] := hD
    refine lv_iconst (v := (1 : Int32)) hx hb dX4_stepBack_19 (by decide) ?_
    obtain rfl := Option.some.inj hf
    exact W.zret (ty := .boolean) hx hb hr rfl (fun t ht hW => ⟨⟨(), rfl, by rw [ht]; exact hP, hD⟩, hS.F ht⟩) hS.2.2 dX4_stepBack_20
  · have hf := ifp hf c_1
    refine lv_iconst (v := (0 : Int32)) hx hb dX4_stepBack_7 (by decide) ?_
    obtain rfl := Option.some.inj hf
    exact W.zret (ty := .boolean) hx hb hr rfl (fun t ht hW => ⟨⟨(), rfl, by rw [ht]; exact hP, hD⟩, hS.F ht⟩) hS.2.2 dX4_stepBack_8

def fX4_samplesBefore (qs : Nat → Int32) (qn : Int32) : Option (Int32) := (if (256 : Int32) ≤ qn then some (0 : Int32) else (if (ib qn 256) = true then some (qs qn.toNatClampNeg) else none))

set_option maxHeartbeats 4000000 in
set_option maxRecDepth 100000 in
theorem cX4_samplesBefore_ok (l : Launch) (D : va_G) (y : Nat → ClassId) (aq : Nat) (u0 : Nat) (u1 : Nat) (u2 : Nat) (u3 : Nat) (u4 : Nat) (qs : Nat → Int32) (ql : Nat → Int64) (qt : Nat → Int32) (qw : Nat → Int32) (qv : Nat → Int64) (qn : Int32) (res : Int32) (hf : fX4_samplesBefore qs qn = some res) : CT l D y yX4_samplesBefore wsX4_samplesBefore ({ frames := 0, cells := 0, slots := 0, locals := 0 } : Room) [.ref aq] [(aq, .inr (3, [.ref u0, .ref u1, .ref u2, .ref u3, .ref u4, .int qn])), (u0, .inl (y 1, 256, .inl qs)), (u1, .inl (y 2, 256, .inr (.inl ql))), (u2, .inl (y 1, 256, .inl qt)), (u3, .inl (y 1, 256, .inl qw)), (u4, .inl (y 2, 256, .inr (.inl qv)))] (some (.int res)) [(aq, .inr (3, [.ref u0, .ref u1, .ref u2, .ref u3, .ref u4, .int qn])), (u0, .inl (y 1, 256, .inl qs)), (u1, .inl (y 2, 256, .inr (.inl ql))), (u2, .inl (y 1, 256, .inl qt)), (u3, .inl (y 1, 256, .inl qw)), (u4, .inl (y 2, 256, .inr (.inl qv)))] := by
  intro sz
  refine Met.ofW (cc := cX4_samplesBefore) (maxL := 1) (ret := (some .int)) (by decide) rfl ?_
  intro p e s m args below meth c s₁ B hml hv
  obtain ⟨rfl, hsz, hP, hK, hD0, hst, hno⟩ := hv
  have hx := B.exec
  have hb := B.bytes
  have hr := B.returns
  have hts := atoms_spec (ws := wsX4_samplesBefore) B.pre
  have hown : s.vm.findClass RX4 = some m.cls := findClass_of_methodNamed B.named
  have hlocks := B.notSynchronized
  subst hsz
  have hD := hD0.self (sz := s.heap.size)
  generalize hAe : va_A [(aq, .inr (3, [.ref u0, .ref u1, .ref u2, .ref u3, .ref u4, .int qn])), (u0, .inl (y 1, 256, .inl qs)), (u1, .inl (y 2, 256, .inr (.inl ql))), (u2, .inl (y 1, 256, .inl qt)), (u3, .inl (y 1, 256, .inl qw)), (u4, .inl (y 2, 256, .inr (.inl qv)))] s.heap.size = A at hD hst ⊢
  have hA : ∀ q : Nat, s.heap.size ≤ q → A q := fun q h => by rw [← hAe]; exact Or.inr h
  have hS : va_S A s.heap s.heap [] := va_S.rf
  have E : Ev D y A s := ⟨hK, hst, hno, hA⟩
  have hfix : CallFix p m c cX4_samplesBefore 1 s _ wsX4_samplesBefore RX4 := ⟨hx, hb, hml, hown, hts⟩
  have hP : va_P D vwCl [(aq, .inr (3, [.ref u0, .ref u1, .ref u2, .ref u3, .ref u4, .int qn])), (u0, .inl (y 1, 256, .inl qs)), (u1, .inl (y 2, 256, .inr (.inl ql))), (u2, .inl (y 1, 256, .inl qt)), (u3, .inl (y 1, 256, .inl qw)), (u4, .inl (y 2, 256, .inr (.inl qv)))] s.heap := hP
  have iX4 : ∀ w ∈ wsX40, w ∈ wsX4_samplesBefore := by decide +kernel
  have hl := lv_entry ([.ref aq]) (n := 1) (Nat.le_of_ble_eq_true rfl)
  rw [lg_entry_eq]
  generalize (lg_sl ([.ref aq]) ++ List.replicate (1 - (lg_sl ([.ref aq])).length) Slot.unset).toArray = ls at hl ⊢
  have hl : lv_has ls 1 [(0, .ref aq)] := hl
  unfold fX4_samplesBefore at hf
  refine lv_aload_n hx hb dX4_samplesBefore_0 rfl (lv_at hl 0 rfl) ?_
  refine va_get (D := D) (ci := 3) (v := .int qn) (C := RX4) (T := TX4) (N := 6) hx hb hts iX4 hown hK hP 0 rfl rfl 5 (by decide) (hts (.fieldLink RX4 28 "SampleTracker$Past" "size" "I") (by decide +kernel)) (fun _ h9 => h9) rfl dX4_samplesBefore_1 ?_
  refine lv_sipush (v := (256 : Int32)) hx hb dX4_samplesBefore_4 (by decide) ?_
  refine lv_icmp_ge (tgt := 22) hx hb dX4_samplesBefore_7 (by decide) (fun c_1 => ?_) (fun c_1 => ?_)
  · have hf := ifp hf c_1
    refine lv_iconst (v := (0 : Int32)) hx hb dX4_samplesBefore_22 (by decide) ?_
    obtain rfl := Option.some.inj hf
    exact W.iret hx hb hr (fun t ht hW => ⟨⟨(), rfl, by rw [ht]; exact hP, hD⟩, hS.F ht⟩) hS.2.2 dX4_samplesBefore_23
  · have hf := ifn hf c_1
    refine lv_aload_n hx hb dX4_samplesBefore_10 rfl (lv_at hl 0 rfl) ?_
    refine va_get (D := D) (ci := 3) (v := .ref u0) (C := RX4) (T := TX4) (N := 6) hx hb hts iX4 hown hK hP 0 rfl rfl 0 (by decide) (hts (.fieldLink RX4 9 "SampleTracker$Past" "samples" "[I") (by decide +kernel)) (fun _ h9 => h9) rfl dX4_samplesBefore_11 ?_
    refine lv_aload_n hx hb dX4_samplesBefore_14 rfl (lv_at hl 0 rfl) ?_
    refine va_get (D := D) (ci := 3) (v := .int qn) (C := RX4) (T := TX4) (N := 6) hx hb hts iX4 hown hK hP 0 rfl rfl 5 (by decide) (hts (.fieldLink RX4 28 "SampleTracker$Past" "size" "I") (by decide +kernel)) (fun _ h9 => h9) rfl dX4_samplesBefore_15 ?_
    obtain ⟨h_2, hf⟩ := ibk hf
    refine va_iald hx hb hK hP 1 1 rfl rfl (ib_in h_2) dX4_samplesBefore_18 ?_
    refine lv_goto (tgt := 23) hx hb dX4_samplesBefore_19 (by decide) ?_
    obtain rfl := Option.some.inj hf
    exact W.iret hx hb hr (fun t ht hW => ⟨⟨(), rfl, by rw [ht]; exact hP, hD⟩, hS.F ht⟩) hS.2.2 dX4_samplesBefore_23

def fX4_lostBefore (ql : Nat → Int64) (qn : Int32) : Option (Int64) := (if (256 : Int32) ≤ qn then some (0 : Int64) else (if (ib qn 256) = true then some (ql qn.toNatClampNeg) else none))

set_option maxHeartbeats 4000000 in
set_option maxRecDepth 100000 in
theorem cX4_lostBefore_ok (l : Launch) (D : va_G) (y : Nat → ClassId) (aq : Nat) (u0 : Nat) (u1 : Nat) (u2 : Nat) (u3 : Nat) (u4 : Nat) (qs : Nat → Int32) (ql : Nat → Int64) (qt : Nat → Int32) (qw : Nat → Int32) (qv : Nat → Int64) (qn : Int32) (res : Int64) (hf : fX4_lostBefore ql qn = some res) : CT l D y yX4_lostBefore wsX4_lostBefore ({ frames := 0, cells := 0, slots := 0, locals := 0 } : Room) [.ref aq] [(aq, .inr (3, [.ref u0, .ref u1, .ref u2, .ref u3, .ref u4, .int qn])), (u0, .inl (y 1, 256, .inl qs)), (u1, .inl (y 2, 256, .inr (.inl ql))), (u2, .inl (y 1, 256, .inl qt)), (u3, .inl (y 1, 256, .inl qw)), (u4, .inl (y 2, 256, .inr (.inl qv)))] (some (.long res)) [(aq, .inr (3, [.ref u0, .ref u1, .ref u2, .ref u3, .ref u4, .int qn])), (u0, .inl (y 1, 256, .inl qs)), (u1, .inl (y 2, 256, .inr (.inl ql))), (u2, .inl (y 1, 256, .inl qt)), (u3, .inl (y 1, 256, .inl qw)), (u4, .inl (y 2, 256, .inr (.inl qv)))] := by
  intro sz
  refine Met.ofW (cc := cX4_lostBefore) (maxL := 1) (ret := (some .long)) (by decide) rfl ?_
  intro p e s m args below meth c s₁ B hml hv
  obtain ⟨rfl, hsz, hP, hK, hD0, hst, hno⟩ := hv
  have hx := B.exec
  have hb := B.bytes
  have hr := B.returns
  have hts := atoms_spec (ws := wsX4_lostBefore) B.pre
  have hown : s.vm.findClass RX4 = some m.cls := findClass_of_methodNamed B.named
  have hlocks := B.notSynchronized
  subst hsz
  have hD := hD0.self (sz := s.heap.size)
  generalize hAe : va_A [(aq, .inr (3, [.ref u0, .ref u1, .ref u2, .ref u3, .ref u4, .int qn])), (u0, .inl (y 1, 256, .inl qs)), (u1, .inl (y 2, 256, .inr (.inl ql))), (u2, .inl (y 1, 256, .inl qt)), (u3, .inl (y 1, 256, .inl qw)), (u4, .inl (y 2, 256, .inr (.inl qv)))] s.heap.size = A at hD hst ⊢
  have hA : ∀ q : Nat, s.heap.size ≤ q → A q := fun q h => by rw [← hAe]; exact Or.inr h
  have hS : va_S A s.heap s.heap [] := va_S.rf
  have E : Ev D y A s := ⟨hK, hst, hno, hA⟩
  have hfix : CallFix p m c cX4_lostBefore 1 s _ wsX4_lostBefore RX4 := ⟨hx, hb, hml, hown, hts⟩
  have hP : va_P D vwCl [(aq, .inr (3, [.ref u0, .ref u1, .ref u2, .ref u3, .ref u4, .int qn])), (u0, .inl (y 1, 256, .inl qs)), (u1, .inl (y 2, 256, .inr (.inl ql))), (u2, .inl (y 1, 256, .inl qt)), (u3, .inl (y 1, 256, .inl qw)), (u4, .inl (y 2, 256, .inr (.inl qv)))] s.heap := hP
  have iX4 : ∀ w ∈ wsX40, w ∈ wsX4_lostBefore := by decide +kernel
  have hl := lv_entry ([.ref aq]) (n := 1) (Nat.le_of_ble_eq_true rfl)
  rw [lg_entry_eq]
  generalize (lg_sl ([.ref aq]) ++ List.replicate (1 - (lg_sl ([.ref aq])).length) Slot.unset).toArray = ls at hl ⊢
  have hl : lv_has ls 1 [(0, .ref aq)] := hl
  unfold fX4_lostBefore at hf
  refine lv_aload_n hx hb dX4_lostBefore_0 rfl (lv_at hl 0 rfl) ?_
  refine va_get (D := D) (ci := 3) (v := .int qn) (C := RX4) (T := TX4) (N := 6) hx hb hts iX4 hown hK hP 0 rfl rfl 5 (by decide) (hts (.fieldLink RX4 28 "SampleTracker$Past" "size" "I") (by decide +kernel)) (fun _ h9 => h9) rfl dX4_lostBefore_1 ?_
  refine lv_sipush (v := (256 : Int32)) hx hb dX4_lostBefore_4 (by decide) ?_
  refine lv_icmp_ge (tgt := 22) hx hb dX4_lostBefore_7 (by decide) (fun c_1 => ?_) (fun c_1 => ?_)
  · have hf := ifp hf c_1
    refine lv_lconst (v := (0 : Int64)) hx hb dX4_lostBefore_22 (by decide) ?_
    obtain rfl := Option.some.inj hf
    exact W.lret hx hb hr (fun t ht hW => ⟨⟨(), rfl, by rw [ht]; exact hP, hD⟩, hS.F ht⟩) hS.2.2 dX4_lostBefore_23
  · have hf := ifn hf c_1
    refine lv_aload_n hx hb dX4_lostBefore_10 rfl (lv_at hl 0 rfl) ?_
    refine va_get (D := D) (ci := 3) (v := .ref u1) (C := RX4) (T := TX4) (N := 6) hx hb hts iX4 hown hK hP 0 rfl rfl 1 (by decide) (hts (.fieldLink RX4 15 "SampleTracker$Past" "lost" "[J") (by decide +kernel)) (fun _ h9 => h9) rfl dX4_lostBefore_11 ?_
    refine lv_aload_n hx hb dX4_lostBefore_14 rfl (lv_at hl 0 rfl) ?_
    refine va_get (D := D) (ci := 3) (v := .int qn) (C := RX4) (T := TX4) (N := 6) hx hb hts iX4 hown hK hP 0 rfl rfl 5 (by decide) (hts (.fieldLink RX4 28 "SampleTracker$Past" "size" "I") (by decide +kernel)) (fun _ h9 => h9) rfl dX4_lostBefore_15 ?_
    obtain ⟨h_2, hf⟩ := ibk hf
    refine va_lald hx hb hK hP 2 2 rfl rfl (ib_in h_2) dX4_lostBefore_18 ?_
    refine lv_goto (tgt := 23) hx hb dX4_lostBefore_19 (by decide) ?_
    obtain rfl := Option.some.inj hf
    exact W.lret hx hb hr (fun t ht hW => ⟨⟨(), rfl, by rw [ht]; exact hP, hD⟩, hS.F ht⟩) hS.2.2 dX4_lostBefore_23

def fX4_touched (qt : Nat → Int32) (qn : Int32) : Option (Int32) := (if (256 : Int32) ≤ qn then some (0 : Int32) else (if (ib qn 256) = true then some (qt qn.toNatClampNeg) else none))

set_option maxHeartbeats 4000000 in
set_option maxRecDepth 100000 in
theorem cX4_touched_ok (l : Launch) (D : va_G) (y : Nat → ClassId) (aq : Nat) (u0 : Nat) (u1 : Nat) (u2 : Nat) (u3 : Nat) (u4 : Nat) (qs : Nat → Int32) (ql : Nat → Int64) (qt : Nat → Int32) (qw : Nat → Int32) (qv : Nat → Int64) (qn : Int32) (res : Int32) (hf : fX4_touched qt qn = some res) : CT l D y yX4_touched wsX4_touched ({ frames := 0, cells := 0, slots := 0, locals := 0 } : Room) [.ref aq] [(aq, .inr (3, [.ref u0, .ref u1, .ref u2, .ref u3, .ref u4, .int qn])), (u0, .inl (y 1, 256, .inl qs)), (u1, .inl (y 2, 256, .inr (.inl ql))), (u2, .inl (y 1, 256, .inl qt)), (u3, .inl (y 1, 256, .inl qw)), (u4, .inl (y 2, 256, .inr (.inl qv)))] (some (.int res)) [(aq, .inr (3, [.ref u0, .ref u1, .ref u2, .ref u3, .ref u4, .int qn])), (u0, .inl (y 1, 256, .inl qs)), (u1, .inl (y 2, 256, .inr (.inl ql))), (u2, .inl (y 1, 256, .inl qt)), (u3, .inl (y 1, 256, .inl qw)), (u4, .inl (y 2, 256, .inr (.inl qv)))] := by
  intro sz
  refine Met.ofW (cc := cX4_touched) (maxL := 1) (ret := (some .int)) (by decide) rfl ?_
  intro p e s m args below meth c s₁ B hml hv
  obtain ⟨rfl, hsz, hP, hK, hD0, hst, hno⟩ := hv
  have hx := B.exec
  have hb := B.bytes
  have hr := B.returns
  have hts := atoms_spec (ws := wsX4_touched) B.pre
  have hown : s.vm.findClass RX4 = some m.cls := findClass_of_methodNamed B.named
  have hlocks := B.notSynchronized
  subst hsz
  have hD := hD0.self (sz := s.heap.size)
  generalize hAe : va_A [(aq, .inr (3, [.ref u0, .ref u1, .ref u2, .ref u3, .ref u4, .int qn])), (u0, .inl (y 1, 256, .inl qs)), (u1, .inl (y 2, 256, .inr (.inl ql))), (u2, .inl (y 1, 256, .inl qt)), (u3, .inl (y 1, 256, .inl qw)), (u4, .inl (y 2, 256, .inr (.inl qv)))] s.heap.size = A at hD hst ⊢
  have hA : ∀ q : Nat, s.heap.size ≤ q → A q := fun q h => by rw [← hAe]; exact Or.inr h
  have hS : va_S A s.heap s.heap [] := va_S.rf
  have E : Ev D y A s := ⟨hK, hst, hno, hA⟩
  have hfix : CallFix p m c cX4_touched 1 s _ wsX4_touched RX4 := ⟨hx, hb, hml, hown, hts⟩
  have hP : va_P D vwCl [(aq, .inr (3, [.ref u0, .ref u1, .ref u2, .ref u3, .ref u4, .int qn])), (u0, .inl (y 1, 256, .inl qs)), (u1, .inl (y 2, 256, .inr (.inl ql))), (u2, .inl (y 1, 256, .inl qt)), (u3, .inl (y 1, 256, .inl qw)), (u4, .inl (y 2, 256, .inr (.inl qv)))] s.heap := hP
  have iX4 : ∀ w ∈ wsX40, w ∈ wsX4_touched := by decide +kernel
  have hl := lv_entry ([.ref aq]) (n := 1) (Nat.le_of_ble_eq_true rfl)
  rw [lg_entry_eq]
  generalize (lg_sl ([.ref aq]) ++ List.replicate (1 - (lg_sl ([.ref aq])).length) Slot.unset).toArray = ls at hl ⊢
  have hl : lv_has ls 1 [(0, .ref aq)] := hl
  unfold fX4_touched at hf
  refine lv_aload_n hx hb dX4_touched_0 rfl (lv_at hl 0 rfl) ?_
  refine va_get (D := D) (ci := 3) (v := .int qn) (C := RX4) (T := TX4) (N := 6) hx hb hts iX4 hown hK hP 0 rfl rfl 5 (by decide) (hts (.fieldLink RX4 28 "SampleTracker$Past" "size" "I") (by decide +kernel)) (fun _ h9 => h9) rfl dX4_touched_1 ?_
  refine lv_sipush (v := (256 : Int32)) hx hb dX4_touched_4 (by decide) ?_
  refine lv_icmp_ge (tgt := 22) hx hb dX4_touched_7 (by decide) (fun c_1 => ?_) (fun c_1 => ?_)
  · have hf := ifp hf c_1
    refine lv_iconst (v := (0 : Int32)) hx hb dX4_touched_22 (by decide) ?_
    obtain rfl := Option.some.inj hf
    exact W.iret hx hb hr (fun t ht hW => ⟨⟨(), rfl, by rw [ht]; exact hP, hD⟩, hS.F ht⟩) hS.2.2 dX4_touched_23
  · have hf := ifn hf c_1
    refine lv_aload_n hx hb dX4_touched_10 rfl (lv_at hl 0 rfl) ?_
    refine va_get (D := D) (ci := 3) (v := .ref u2) (C := RX4) (T := TX4) (N := 6) hx hb hts iX4 hown hK hP 0 rfl rfl 2 (by decide) (hts (.fieldLink RX4 19 "SampleTracker$Past" "touched" "[I") (by decide +kernel)) (fun _ h9 => h9) rfl dX4_touched_11 ?_
    refine lv_aload_n hx hb dX4_touched_14 rfl (lv_at hl 0 rfl) ?_
    refine va_get (D := D) (ci := 3) (v := .int qn) (C := RX4) (T := TX4) (N := 6) hx hb hts iX4 hown hK hP 0 rfl rfl 5 (by decide) (hts (.fieldLink RX4 28 "SampleTracker$Past" "size" "I") (by decide +kernel)) (fun _ h9 => h9) rfl dX4_touched_15 ?_
    obtain ⟨h_2, hf⟩ := ibk hf
    refine va_iald hx hb hK hP 3 1 rfl rfl (ib_in h_2) dX4_touched_18 ?_
    refine lv_goto (tgt := 23) hx hb dX4_touched_19 (by decide) ?_
    obtain rfl := Option.some.inj hf
    exact W.iret hx hb hr (fun t ht hW => ⟨⟨(), rfl, by rw [ht]; exact hP, hD⟩, hS.F ht⟩) hS.2.2 dX4_touched_23

def fX4_wellBefore (qw : Nat → Int32) (qn : Int32) : Option (Int32) := (if (256 : Int32) ≤ qn then some (-1 : Int32) else (if (ib qn 256) = true then some (qw qn.toNatClampNeg) else none))

set_option maxHeartbeats 4000000 in
set_option maxRecDepth 100000 in
theorem cX4_wellBefore_ok (l : Launch) (D : va_G) (y : Nat → ClassId) (aq : Nat) (u0 : Nat) (u1 : Nat) (u2 : Nat) (u3 : Nat) (u4 : Nat) (qs : Nat → Int32) (ql : Nat → Int64) (qt : Nat → Int32) (qw : Nat → Int32) (qv : Nat → Int64) (qn : Int32) (res : Int32) (hf : fX4_wellBefore qw qn = some res) : CT l D y yX4_wellBefore wsX4_wellBefore ({ frames := 0, cells := 0, slots := 0, locals := 0 } : Room) [.ref aq] [(aq, .inr (3, [.ref u0, .ref u1, .ref u2, .ref u3, .ref u4, .int qn])), (u0, .inl (y 1, 256, .inl qs)), (u1, .inl (y 2, 256, .inr (.inl ql))), (u2, .inl (y 1, 256, .inl qt)), (u3, .inl (y 1, 256, .inl qw)), (u4, .inl (y 2, 256, .inr (.inl qv)))] (some (.int res)) [(aq, .inr (3, [.ref u0, .ref u1, .ref u2, .ref u3, .ref u4, .int qn])), (u0, .inl (y 1, 256, .inl qs)), (u1, .inl (y 2, 256, .inr (.inl ql))), (u2, .inl (y 1, 256, .inl qt)), (u3, .inl (y 1, 256, .inl qw)), (u4, .inl (y 2, 256, .inr (.inl qv)))] := by
  intro sz
  refine Met.ofW (cc := cX4_wellBefore) (maxL := 1) (ret := (some .int)) (by decide) rfl ?_
  intro p e s m args below meth c s₁ B hml hv
  obtain ⟨rfl, hsz, hP, hK, hD0, hst, hno⟩ := hv
  have hx := B.exec
  have hb := B.bytes
  have hr := B.returns
  have hts := atoms_spec (ws := wsX4_wellBefore) B.pre
  have hown : s.vm.findClass RX4 = some m.cls := findClass_of_methodNamed B.named
  have hlocks := B.notSynchronized
  subst hsz
  have hD := hD0.self (sz := s.heap.size)
  generalize hAe : va_A [(aq, .inr (3, [.ref u0, .ref u1, .ref u2, .ref u3, .ref u4, .int qn])), (u0, .inl (y 1, 256, .inl qs)), (u1, .inl (y 2, 256, .inr (.inl ql))), (u2, .inl (y 1, 256, .inl qt)), (u3, .inl (y 1, 256, .inl qw)), (u4, .inl (y 2, 256, .inr (.inl qv)))] s.heap.size = A at hD hst ⊢
  have hA : ∀ q : Nat, s.heap.size ≤ q → A q := fun q h => by rw [← hAe]; exact Or.inr h
  have hS : va_S A s.heap s.heap [] := va_S.rf
  have E : Ev D y A s := ⟨hK, hst, hno, hA⟩
  have hfix : CallFix p m c cX4_wellBefore 1 s _ wsX4_wellBefore RX4 := ⟨hx, hb, hml, hown, hts⟩
  have hP : va_P D vwCl [(aq, .inr (3, [.ref u0, .ref u1, .ref u2, .ref u3, .ref u4, .int qn])), (u0, .inl (y 1, 256, .inl qs)), (u1, .inl (y 2, 256, .inr (.inl ql))), (u2, .inl (y 1, 256, .inl qt)), (u3, .inl (y 1, 256, .inl qw)), (u4, .inl (y 2, 256, .inr (.inl qv)))] s.heap := hP
  have iX4 : ∀ w ∈ wsX40, w ∈ wsX4_wellBefore := by decide +kernel
  have hl := lv_entry ([.ref aq]) (n := 1) (Nat.le_of_ble_eq_true rfl)
  rw [lg_entry_eq]
  generalize (lg_sl ([.ref aq]) ++ List.replicate (1 - (lg_sl ([.ref aq])).length) Slot.unset).toArray = ls at hl ⊢
  have hl : lv_has ls 1 [(0, .ref aq)] := hl
  unfold fX4_wellBefore at hf
  refine lv_aload_n hx hb dX4_wellBefore_0 rfl (lv_at hl 0 rfl) ?_
  refine va_get (D := D) (ci := 3) (v := .int qn) (C := RX4) (T := TX4) (N := 6) hx hb hts iX4 hown hK hP 0 rfl rfl 5 (by decide) (hts (.fieldLink RX4 28 "SampleTracker$Past" "size" "I") (by decide +kernel)) (fun _ h9 => h9) rfl dX4_wellBefore_1 ?_
  refine lv_sipush (v := (256 : Int32)) hx hb dX4_wellBefore_4 (by decide) ?_
  refine lv_icmp_ge (tgt := 22) hx hb dX4_wellBefore_7 (by decide) (fun c_1 => ?_) (fun c_1 => ?_)
  · have hf := ifp hf c_1
    refine lv_iconst (v := (-1 : Int32)) hx hb dX4_wellBefore_22 (by decide) ?_
    obtain rfl := Option.some.inj hf
    exact W.iret hx hb hr (fun t ht hW => ⟨⟨(), rfl, by rw [ht]; exact hP, hD⟩, hS.F ht⟩) hS.2.2 dX4_wellBefore_23
  · have hf := ifn hf c_1
    refine lv_aload_n hx hb dX4_wellBefore_10 rfl (lv_at hl 0 rfl) ?_
    refine va_get (D := D) (ci := 3) (v := .ref u3) (C := RX4) (T := TX4) (N := 6) hx hb hts iX4 hown hK hP 0 rfl rfl 3 (by decide) (hts (.fieldLink RX4 22 "SampleTracker$Past" "wells" "[I") (by decide +kernel)) (fun _ h9 => h9) rfl dX4_wellBefore_11 ?_
    refine lv_aload_n hx hb dX4_wellBefore_14 rfl (lv_at hl 0 rfl) ?_
    refine va_get (D := D) (ci := 3) (v := .int qn) (C := RX4) (T := TX4) (N := 6) hx hb hts iX4 hown hK hP 0 rfl rfl 5 (by decide) (hts (.fieldLink RX4 28 "SampleTracker$Past" "size" "I") (by decide +kernel)) (fun _ h9 => h9) rfl dX4_wellBefore_15 ?_
    obtain ⟨h_2, hf⟩ := ibk hf
    refine va_iald hx hb hK hP 4 1 rfl rfl (ib_in h_2) dX4_wellBefore_18 ?_
    refine lv_goto (tgt := 23) hx hb dX4_wellBefore_19 (by decide) ?_
    obtain rfl := Option.some.inj hf
    exact W.iret hx hb hr (fun t ht hW => ⟨⟨(), rfl, by rw [ht]; exact hP, hD⟩, hS.F ht⟩) hS.2.2 dX4_wellBefore_23

def fX4_volumeBefore (qv : Nat → Int64) (qn : Int32) : Option (Int64) := (if (256 : Int32) ≤ qn then some (0 : Int64) else (if (ib qn 256) = true then some (qv qn.toNatClampNeg) else none))

set_option maxHeartbeats 4000000 in
set_option maxRecDepth 100000 in
theorem cX4_volumeBefore_ok (l : Launch) (D : va_G) (y : Nat → ClassId) (aq : Nat) (u0 : Nat) (u1 : Nat) (u2 : Nat) (u3 : Nat) (u4 : Nat) (qs : Nat → Int32) (ql : Nat → Int64) (qt : Nat → Int32) (qw : Nat → Int32) (qv : Nat → Int64) (qn : Int32) (res : Int64) (hf : fX4_volumeBefore qv qn = some res) : CT l D y yX4_volumeBefore wsX4_volumeBefore ({ frames := 0, cells := 0, slots := 0, locals := 0 } : Room) [.ref aq] [(aq, .inr (3, [.ref u0, .ref u1, .ref u2, .ref u3, .ref u4, .int qn])), (u0, .inl (y 1, 256, .inl qs)), (u1, .inl (y 2, 256, .inr (.inl ql))), (u2, .inl (y 1, 256, .inl qt)), (u3, .inl (y 1, 256, .inl qw)), (u4, .inl (y 2, 256, .inr (.inl qv)))] (some (.long res)) [(aq, .inr (3, [.ref u0, .ref u1, .ref u2, .ref u3, .ref u4, .int qn])), (u0, .inl (y 1, 256, .inl qs)), (u1, .inl (y 2, 256, .inr (.inl ql))), (u2, .inl (y 1, 256, .inl qt)), (u3, .inl (y 1, 256, .inl qw)), (u4, .inl (y 2, 256, .inr (.inl qv)))] := by
  intro sz
  refine Met.ofW (cc := cX4_volumeBefore) (maxL := 1) (ret := (some .long)) (by decide) rfl ?_
  intro p e s m args below meth c s₁ B hml hv
  obtain ⟨rfl, hsz, hP, hK, hD0, hst, hno⟩ := hv
  have hx := B.exec
  have hb := B.bytes
  have hr := B.returns
  have hts := atoms_spec (ws := wsX4_volumeBefore) B.pre
  have hown : s.vm.findClass RX4 = some m.cls := findClass_of_methodNamed B.named
  have hlocks := B.notSynchronized
  subst hsz
  have hD := hD0.self (sz := s.heap.size)
  generalize hAe : va_A [(aq, .inr (3, [.ref u0, .ref u1, .ref u2, .ref u3, .ref u4, .int qn])), (u0, .inl (y 1, 256, .inl qs)), (u1, .inl (y 2, 256, .inr (.inl ql))), (u2, .inl (y 1, 256, .inl qt)), (u3, .inl (y 1, 256, .inl qw)), (u4, .inl (y 2, 256, .inr (.inl qv)))] s.heap.size = A at hD hst ⊢
  have hA : ∀ q : Nat, s.heap.size ≤ q → A q := fun q h => by rw [← hAe]; exact Or.inr h
  have hS : va_S A s.heap s.heap [] := va_S.rf
  have E : Ev D y A s := ⟨hK, hst, hno, hA⟩
  have hfix : CallFix p m c cX4_volumeBefore 1 s _ wsX4_volumeBefore RX4 := ⟨hx, hb, hml, hown, hts⟩
  have hP : va_P D vwCl [(aq, .inr (3, [.ref u0, .ref u1, .ref u2, .ref u3, .ref u4, .int qn])), (u0, .inl (y 1, 256, .inl qs)), (u1, .inl (y 2, 256, .inr (.inl ql))), (u2, .inl (y 1, 256, .inl qt)), (u3, .inl (y 1, 256, .inl qw)), (u4, .inl (y 2, 256, .inr (.inl qv)))] s.heap := hP
  have iX4 : ∀ w ∈ wsX40, w ∈ wsX4_volumeBefore := by decide +kernel
  have hl := lv_entry ([.ref aq]) (n := 1) (Nat.le_of_ble_eq_true rfl)
  rw [lg_entry_eq]
  generalize (lg_sl ([.ref aq]) ++ List.replicate (1 - (lg_sl ([.ref aq])).length) Slot.unset).toArray = ls at hl ⊢
  have hl : lv_has ls 1 [(0, .ref aq)] := hl
  unfold fX4_volumeBefore at hf
  refine lv_aload_n hx hb dX4_volumeBefore_0 rfl (lv_at hl 0 rfl) ?_
  refine va_get (D := D) (ci := 3) (v := .int qn) (C := RX4) (T := TX4) (N := 6) hx hb hts iX4 hown hK hP 0 rfl rfl 5 (by decide) (hts (.fieldLink RX4 28 "SampleTracker$Past" "size" "I") (by decide +kernel)) (fun _ h9 => h9) rfl dX4_volumeBefore_1 ?_
  refine lv_sipush (v := (256 : Int32)) hx hb dX4_volumeBefore_4 (by decide) ?_
  refine lv_icmp_ge (tgt := 22) hx hb dX4_volumeBefore_7 (by decide) (fun c_1 => ?_) (fun c_1 => ?_)
  · have hf := ifp hf c_1
    refine lv_lconst (v := (0 : Int64)) hx hb dX4_volumeBefore_22 (by decide) ?_
    obtain rfl := Option.some.inj hf
    exact W.lret hx hb hr (fun t ht hW => ⟨⟨(), rfl, by rw [ht]; exact hP, hD⟩, hS.F ht⟩) hS.2.2 dX4_volumeBefore_23
  · have hf := ifn hf c_1
    refine lv_aload_n hx hb dX4_volumeBefore_10 rfl (lv_at hl 0 rfl) ?_
    refine va_get (D := D) (ci := 3) (v := .ref u4) (C := RX4) (T := TX4) (N := 6) hx hb hts iX4 hown hK hP 0 rfl rfl 4 (by decide) (hts (.fieldLink RX4 25 "SampleTracker$Past" "volumes" "[J") (by decide +kernel)) (fun _ h9 => h9) rfl dX4_volumeBefore_11 ?_
    refine lv_aload_n hx hb dX4_volumeBefore_14 rfl (lv_at hl 0 rfl) ?_
    refine va_get (D := D) (ci := 3) (v := .int qn) (C := RX4) (T := TX4) (N := 6) hx hb hts iX4 hown hK hP 0 rfl rfl 5 (by decide) (hts (.fieldLink RX4 28 "SampleTracker$Past" "size" "I") (by decide +kernel)) (fun _ h9 => h9) rfl dX4_volumeBefore_15 ?_
    obtain ⟨h_2, hf⟩ := ibk hf
    refine va_lald hx hb hK hP 5 2 rfl rfl (ib_in h_2) dX4_volumeBefore_18 ?_
    refine lv_goto (tgt := 23) hx hb dX4_volumeBefore_19 (by decide) ?_
    obtain rfl := Option.some.inj hf
    exact W.lret hx hb hr (fun t ht hW => ⟨⟨(), rfl, by rw [ht]; exact hP, hD⟩, hS.F ht⟩) hS.2.2 dX4_volumeBefore_23

