/-! 12.pen: laid by wip/whole/gen.py: mirrors and contracts -/
set_option maxHeartbeats 4000000 in
set_option maxRecDepth 100000 in
theorem cX5_position_ok (l : Launch) (D : va_G) (y : Nat → ClassId) (ap : Nat) (aw : Nat) (pb : Nat) (pos : Int32) (crc : Int32) : CT l D y yX5_position wsX5_position ({ frames := 0, cells := 0, slots := 0, locals := 0 } : Room) [.ref ap] [(ap, .inr (4, [.ref aw, .ref pb, .int pos, .int crc]))] (some (.int pos)) [(ap, .inr (4, [.ref aw, .ref pb, .int pos, .int crc]))] := by
  intro sz
  refine Met.ofW (cc := cX5_position) (maxL := 1) (ret := (some .int)) (by decide) rfl ?_
  intro p e s m args below meth c s₁ B hml hv
  obtain ⟨rfl, hsz, hP, hK, hD0, hst, hno⟩ := hv
  have hx := B.exec
  have hb := B.bytes
  have hr := B.returns
  have hts := atoms_spec (ws := wsX5_position) B.pre
  have hown : s.vm.findClass RX5 = some m.cls := findClass_of_methodNamed B.named
  have hlocks := B.notSynchronized
  subst hsz
  have hD := hD0.self (sz := s.heap.size)
  generalize hAe : va_A [(ap, .inr (4, [.ref aw, .ref pb, .int pos, .int crc]))] s.heap.size = A at hD hst ⊢
  have hA : ∀ q : Nat, s.heap.size ≤ q → A q := fun q h => by rw [← hAe]; exact Or.inr h
  have hS : va_S A s.heap s.heap [] := va_S.rf
  have E : Ev D y A s := ⟨hK, hst, hno, hA⟩
  have hfix : CallFix p m c cX5_position 1 s _ wsX5_position RX5 := ⟨hx, hb, hml, hown, hts⟩
  have hP : va_P D vwCl [(ap, .inr (4, [.ref aw, .ref pb, .int pos, .int crc]))] s.heap := hP
  have iX5 : ∀ w ∈ wsX50, w ∈ wsX5_position := by decide +kernel
  have hl := lv_entry ([.ref ap]) (n := 1) (Nat.le_of_ble_eq_true rfl)
  rw [lg_entry_eq]
  generalize (lg_sl ([.ref ap]) ++ List.replicate (1 - (lg_sl ([.ref ap])).length) Slot.unset).toArray = ls at hl ⊢
  have hl : lv_has ls 1 [(0, .ref ap)] := hl
  refine lv_aload_n hx hb dX5_position_0 rfl (lv_at hl 0 rfl) ?_
  refine va_get (D := D) (ci := 4) (v := .int pos) (C := RX5) (T := TX5) (N := 4) hx hb hts iX5 hown hK hP 0 rfl rfl 2 (by decide) (hts (.fieldLink RX5 9 "SampleTracker$Pen" "position" "I") (by decide +kernel)) (fun _ h9 => h9) rfl dX5_position_1 ?_
  exact W.iret hx hb hr (fun t ht hW => ⟨⟨(), rfl, by rw [ht]; exact hP, hD⟩, hS.F ht⟩) hS.2.2 dX5_position_4

set_option maxHeartbeats 4000000 in
set_option maxRecDepth 100000 in
theorem cX5_goTo_ok (l : Launch) (D : va_G) (y : Nat → ClassId) (ap : Nat) (aw : Nat) (k1 : Nat) (pb : Nat) (pos : Int32) (crc : Int32) (p2 : Int32) : CT l D y yX5_goTo wsX5_goTo ({ frames := 0, cells := 0, slots := 0, locals := 0 } : Room) [.ref ap, .ref k1, .int p2] [(ap, .inr (4, [.ref aw, .ref pb, .int pos, .int crc]))] (none) [(ap, .inr (4, [.ref aw, .ref k1, .int p2, .int crc]))] := by
  intro sz
  refine Met.ofW (cc := cX5_goTo) (maxL := 3) (ret := none) (by decide) rfl ?_
  intro p e s m args below meth c s₁ B hml hv
  obtain ⟨rfl, hsz, hP, hK, hD0, hst, hno⟩ := hv
  have hx := B.exec
  have hb := B.bytes
  have hr := B.returns
  have hts := atoms_spec (ws := wsX5_goTo) B.pre
  have hown : s.vm.findClass RX5 = some m.cls := findClass_of_methodNamed B.named
  have hlocks := B.notSynchronized
  subst hsz
  have hD := hD0.self (sz := s.heap.size)
  generalize hAe : va_A [(ap, .inr (4, [.ref aw, .ref pb, .int pos, .int crc]))] s.heap.size = A at hD hst ⊢
  have hA : ∀ q : Nat, s.heap.size ≤ q → A q := fun q h => by rw [← hAe]; exact Or.inr h
  have hS : va_S A s.heap s.heap [] := va_S.rf
  have E : Ev D y A s := ⟨hK, hst, hno, hA⟩
  have hfix : CallFix p m c cX5_goTo 3 s _ wsX5_goTo RX5 := ⟨hx, hb, hml, hown, hts⟩
  have hP : va_P D vwCl [(ap, .inr (4, [.ref aw, .ref pb, .int pos, .int crc]))] s.heap := hP
  have iX5 : ∀ w ∈ wsX50, w ∈ wsX5_goTo := by decide +kernel
  have hl := lv_entry ([.ref ap, .ref k1, .int p2]) (n := 3) (Nat.le_of_ble_eq_true rfl)
  rw [lg_entry_eq]
  generalize (lg_sl ([.ref ap, .ref k1, .int p2]) ++ List.replicate (3 - (lg_sl ([.ref ap, .ref k1, .int p2])).length) Slot.unset).toArray = ls at hl ⊢
  have hl : lv_has ls 3 [(0, .ref ap), (1, .ref k1), (2, .int p2)] := hl
  refine lv_aload_n hx hb dX5_goTo_0 rfl (lv_at hl 0 rfl) ?_
  refine lv_aload_n hx hb dX5_goTo_1 rfl (lv_at hl 1 rfl) ?_
  refine va_put (D := D) (ci := 4) (v := .ref k1) (ty := .object "SampleTracker$Bank") (C := RX5) (T := TX5) (N := 4) hx hb hts iX5 tyX5 tyX5_ok nmX5 hown hK hP hD hS 0 rfl rfl 1 (by decide) (hts (.fieldLink RX5 24 "SampleTracker$Pen" "bank" "LSampleTracker$Bank;") (by decide +kernel)) (fun _ h9 => h9) rfl (by decide +kernel) rfl rfl (Nat.le_of_ble_eq_true rfl) dX5_goTo_2 (fun H locs hP hD hS => ?_)
  have hP : va_P D vwCl [(ap, .inr (4, [.ref aw, .ref k1, .int pos, .int crc]))] H := hP
  have hD : va_D A [(ap, .inr (4, [.ref aw, .ref k1, .int pos, .int crc]))] := hD
  refine lv_aload_n hx hb dX5_goTo_5 rfl (lv_at hl 0 rfl) ?_
  refine lv_iload_n hx hb dX5_goTo_6 rfl (lv_at hl 2 rfl) ?_
  refine va_put (D := D) (ci := 4) (v := .int p2) (ty := .int) (C := RX5) (T := TX5) (N := 4) hx hb hts iX5 tyX5 tyX5_ok nmX5 hown hK hP hD hS 0 rfl rfl 2 (by decide) (hts (.fieldLink RX5 9 "SampleTracker$Pen" "position" "I") (by decide +kernel)) (fun _ h9 => h9) rfl (by decide +kernel) rfl rfl (Nat.le_of_ble_eq_true rfl) dX5_goTo_7 (fun H locs hP hD hS => ?_)
  have hP : va_P D vwCl [(ap, .inr (4, [.ref aw, .ref k1, .int p2, .int crc]))] H := hP
  have hD : va_D A [(ap, .inr (4, [.ref aw, .ref k1, .int p2, .int crc]))] := hD
  exact W.vret hx hb hr (fun t ht hW => ⟨⟨(), rfl, by rw [ht]; exact hP, hD⟩, hS.F ht⟩) hS.2.2 dX5_goTo_10

def fX5_writeByte (up : Bool) (cw : Bool) (bl : Int32) (wr : Int32) (fa : Int32) (pos : Int32) (nb : Nat) (bb : Nat → Int32) (p1 : Int32) : Option (Bool × Bool × Int32 × Int32 × Int32 × Int32 × (Nat → Int32)) := ((fX6_letByteThrough up cw bl wr fa).bind fun (r_1, o_up_2, o_cw_3, o_bl_4, o_wr_5, o_fa_6) => (if (zb r_1) = 0 then some (o_up_2, o_cw_3, o_bl_4, o_wr_5, o_fa_6, pos, bb) else ((fX0_put nb bb pos p1).bind fun o_bb_9 => some (o_up_2, o_cw_3, o_bl_4, o_wr_5, o_fa_6, (pos + (1 : Int32)), o_bb_9))))

set_option maxHeartbeats 4000000 in
set_option maxRecDepth 100000 in
theorem cX5_writeByte_ok (l : Launch) (D : va_G) (y : Nat → ClassId) (ap : Nat) (aw : Nat) (ak : Nat) (ar : Nat) (up : Bool) (cw : Bool) (bl : Int32) (wr : Int32) (fa : Int32) (pos : Int32) (crc : Int32) (nb : Nat) (bb : Nat → Int32) (p1 : Int32) (res : Bool × Bool × Int32 × Int32 × Int32 × Int32 × (Nat → Int32)) (hf : fX5_writeByte up cw bl wr fa pos nb bb p1 = some res) : CT l D y yX5_writeByte wsX5_writeByte ({ frames := 1, cells := 0, slots := 0, locals := 22 } : Room) [.ref ap, .int p1] [(ap, .inr (4, [.ref aw, .ref ak, .int pos, .int crc])), (aw, .inr (5, [.int (zb up), .int (zb cw), .int bl, .int wr, .int fa])), (ak, .inr (0, [.ref ar])), (ar, .inl (y 0, nb, .inl bb))] (none) [(ap, .inr (4, [.ref aw, .ref ak, .int res.2.2.2.2.2.1, .int crc])), (aw, .inr (5, [.int (zb res.1), .int (zb res.2.1), .int res.2.2.1, .int res.2.2.2.1, .int res.2.2.2.2.1])), (ak, .inr (0, [.ref ar])), (ar, .inl (y 0, nb, .inl res.2.2.2.2.2.2))] := by
  intro sz
  refine Met.ofW (cc := cX5_writeByte) (maxL := 2) (ret := none) (by decide) rfl ?_
  intro p e s m args below meth c s₁ B hml hv
  obtain ⟨rfl, hsz, hP, hK, hD0, hst, hno⟩ := hv
  have hx := B.exec
  have hb := B.bytes
  have hr := B.returns
  have hts := atoms_spec (ws := wsX5_writeByte) B.pre
  have hown : s.vm.findClass RX5 = some m.cls := findClass_of_methodNamed B.named
  have hlocks := B.notSynchronized
  subst hsz
  have hD := hD0.self (sz := s.heap.size)
  generalize hAe : va_A [(ap, .inr (4, [.ref aw, .ref ak, .int pos, .int crc])), (aw, .inr (5, [.int (zb up), .int (zb cw), .int bl, .int wr, .int fa])), (ak, .inr (0, [.ref ar])), (ar, .inl (y 0, nb, .inl bb))] s.heap.size = A at hD hst ⊢
  have hA : ∀ q : Nat, s.heap.size ≤ q → A q := fun q h => by rw [← hAe]; exact Or.inr h
  have hS : va_S A s.heap s.heap [] := va_S.rf
  have E : Ev D y A s := ⟨hK, hst, hno, hA⟩
  have hfix : CallFix p m c cX5_writeByte 2 s _ wsX5_writeByte RX5 := ⟨hx, hb, hml, hown, hts⟩
  have hP : va_P D vwCl [(ap, .inr (4, [.ref aw, .ref ak, .int pos, .int crc])), (aw, .inr (5, [.int (zb up), .int (zb cw), .int bl, .int wr, .int fa])), (ak, .inr (0, [.ref ar])), (ar, .inl (y 0, nb, .inl bb))] s.heap := hP
  have iX5 : ∀ w ∈ wsX50, w ∈ wsX5_writeByte := by decide +kernel
  have hl := lv_entry ([.ref ap, .int p1]) (n := 2) (Nat.le_of_ble_eq_true rfl)
  rw [lg_entry_eq]
  generalize (lg_sl ([.ref ap, .int p1]) ++ List.replicate (2 - (lg_sl ([.ref ap, .int p1])).length) Slot.unset).toArray = ls at hl ⊢
  have hl : lv_has ls 2 [(0, .ref ap), (1, .int p1)] := hl
  unfold fX5_writeByte at hf
  refine lv_aload_n hx hb dX5_writeByte_0 rfl (lv_at hl 0 rfl) ?_
  refine va_get (D := D) (ci := 4) (v := .ref aw) (C := RX5) (T := TX5) (N := 4) hx hb hts iX5 hown hK hP 0 rfl rfl 0 (by decide) (hts (.fieldLink RX5 20 "SampleTracker$Pen" "power" "LSampleTracker$Power;") (by decide +kernel)) (fun _ h9 => h9) rfl dX5_writeByte_1 ?_
  obtain ⟨⟨r_1, o_up_2, o_cw_3, o_bl_4, o_wr_5, o_fa_6⟩, hc_7, hf⟩ := obd hf
  refine ct_V (As := []) (rest := []) (wr := [(ap, .inr (4, [.ref aw, .ref ak, .int pos, .int crc])), (ak, .inr (0, [.ref ar])), (ar, .inl (y 0, nb, .inl bb))]) (wn := [(ap, .inr (4, [.ref aw, .ref ak, .int pos, .int crc])), (aw, .inr (5, [.int (zb o_up_2), .int (zb o_cw_3), .int o_bl_4, .int o_wr_5, .int o_fa_6])), (ak, .inr (0, [.ref ar])), (ar, .inl (y 0, nb, .inl bb))]) hfix (cX6_letByteThrough_ok l D y aw up cw bl wr fa _ hc_7) (cwV 0 hts gX5_writeByte_X6_letByteThrough rfl rfl rfl (by decide +kernel) ⟨Nat.le_of_ble_eq_true rfl, Nat.le_of_ble_eq_true rfl⟩) E hP hD hS [1] [0, 2, 3] [0, 3, 1, 2] rfl rfl rfl rfl (by decide) rfl rfl 0 5 rfl rfl rfl hl.1 rfl (Nat.le_of_ble_eq_true rfl) dX5_writeByte_4 ⟨Nat.zero_le _, Nat.zero_le _⟩ (fun H locs hP hD hS => ?_)
  refine W.eq (g2 := F0 m 7 ls [.int (zb r_1)]) rfl ?_
  refine lv_if_eq (tgt := 32) hx hb dX5_writeByte_7 (by decide) (fun c_8 => ?_) (fun c_8 => ?_)
  · have hf := ifp hf c_8
    obtain rfl := Option.some.inj hf
    exact W.vret hx hb hr (fun t ht hW => ⟨⟨(), rfl, by rw [ht]; exact hP, hD⟩, hS.F ht⟩) hS.2.2 dX5_writeByte_32
  · have hf := ifn hf c_8
    refine lv_aload_n hx hb dX5_writeByte_10 rfl (lv_at hl 0 rfl) ?_
    refine va_get (D := D) (ci := 4) (v := .ref ak) (C := RX5) (T := TX5) (N := 4) hx hb hts iX5 hown hK hP 0 rfl rfl 1 (by decide) (hts (.fieldLink RX5 24 "SampleTracker$Pen" "bank" "LSampleTracker$Bank;") (by decide +kernel)) (fun _ h9 => h9) rfl dX5_writeByte_11 ?_
    refine lv_aload_n hx hb dX5_writeByte_14 rfl (lv_at hl 0 rfl) ?_
    refine va_get (D := D) (ci := 4) (v := .int pos) (C := RX5) (T := TX5) (N := 4) hx hb hts iX5 hown hK hP 0 rfl rfl 2 (by decide) (hts (.fieldLink RX5 9 "SampleTracker$Pen" "position" "I") (by decide +kernel)) (fun _ h9 => h9) rfl dX5_writeByte_15 ?_
    refine lv_iload_n hx hb dX5_writeByte_18 rfl (lv_at hl 1 rfl) ?_
    obtain ⟨o_bb_9, hc_10, hf⟩ := obd hf
    refine ct_V (As := [.int pos, .int p1]) (rest := []) (wr := [(ap, .inr (4, [.ref aw, .ref ak, .int pos, .int crc])), (aw, .inr (5, [.int (zb o_up_2), .int (zb o_cw_3), .int o_bl_4, .int o_wr_5, .int o_fa_6]))]) (wn := [(ap, .inr (4, [.ref aw, .ref ak, .int pos, .int crc])), (aw, .inr (5, [.int (zb o_up_2), .int (zb o_cw_3), .int o_bl_4, .int o_wr_5, .int o_fa_6])), (ak, .inr (0, [.ref ar])), (ar, .inl (y 0, nb, .inl o_bb_9))]) hfix (cX0_put_ok l D y ak ar nb bb pos p1 _ hc_10) (cwV 2 hts gX5_writeByte_X0_put rfl rfl rfl (by decide +kernel) ⟨Nat.le_of_ble_eq_true rfl, Nat.le_of_ble_eq_true rfl⟩) E hP hD hS [2, 3] [0, 1] [0, 1, 2, 3] rfl rfl rfl rfl (by decide) rfl rfl 0 0 rfl rfl rfl hl.1 rfl (Nat.le_of_ble_eq_true rfl) dX5_writeByte_19 ⟨Nat.zero_le _, Nat.zero_le _⟩ (fun H locs hP hD hS => ?_)
    refine W.eq (g2 := F0 m 22 ls []) rfl ?_
    refine lv_aload_n hx hb dX5_writeByte_22 rfl (lv_at hl 0 rfl) ?_
    refine lv_dup hx hb dX5_writeByte_23 rfl ?_
    refine va_get (D := D) (ci := 4) (v := .int pos) (C := RX5) (T := TX5) (N := 4) hx hb hts iX5 hown hK hP 0 rfl rfl 2 (by decide) (hts (.fieldLink RX5 9 "SampleTracker$Pen" "position" "I") (by decide +kernel)) (fun _ h9 => h9) rfl dX5_writeByte_24 ?_
    refine lv_iconst (v := (1 : Int32)) hx hb dX5_writeByte_27 (by decide) ?_
    refine lv_iadd hx hb dX5_writeByte_28 ?_
    refine va_put (D := D) (ci := 4) (v := .int (pos + (1 : Int32))) (ty := .int) (C := RX5) (T := TX5) (N := 4) hx hb hts iX5 tyX5 tyX5_ok nmX5 hown hK hP hD hS 0 rfl rfl 2 (by decide) (hts (.fieldLink RX5 9 "SampleTracker$Pen" "position" "I") (by decide +kernel)) (fun _ h9 => h9) rfl (by decide +kernel) rfl rfl (Nat.le_of_ble_eq_true rfl) dX5_writeByte_29 (fun H locs hP hD hS => ?_)
    have hP : va_P D vwCl [(ap, .inr (4, [.ref aw, .ref ak, .int (pos + (1 : Int32)), .int crc])), (aw, .inr (5, [.int (zb o_up_2), .int (zb o_cw_3), .int o_bl_4, .int o_wr_5, .int o_fa_6])), (ak, .inr (0, [.ref ar])), (ar, .inl (y 0, nb, .inl o_bb_9))] H := hP
    have hD : va_D A [(ap, .inr (4, [.ref aw, .ref ak, .int (pos + (1 : Int32)), .int crc])), (aw, .inr (5, [.int (zb o_up_2), .int (zb o_cw_3), .int o_bl_4, .int o_wr_5, .int o_fa_6])), (ak, .inr (0, [.ref ar])), (ar, .inl (y 0, nb, .inl o_bb_9))] := hD
    obtain rfl := Option.some.inj hf
    exact W.vret hx hb hr (fun t ht hW => ⟨⟨(), rfl, by rw [ht]; exact hP, hD⟩, hS.F ht⟩) hS.2.2 dX5_writeByte_32

def fX5_writeZeros_2 (nb : Nat) (p1 : Int32) : Nat → Int32 → Int32 → Bool → Bool → Int32 → Int32 → Int32 → (Nat → Int32) → Option (Bool × Bool × Int32 × Int32 × Int32 × Int32 × (Nat → Int32))
  | 0, _, _, _, _, _, _, _, _ => none
  | n + 1, v2_0, v2_1, v2_2, v2_3, v2_4, v2_5, v2_6, v2_7 => (if p1 ≤ v2_0 then some (v2_2, v2_3, v2_4, v2_5, v2_6, v2_1, v2_7) else ((fX5_writeByte v2_2 v2_3 v2_4 v2_5 v2_6 v2_1 nb v2_7 (0 : Int32)).bind fun (o_up_2, o_cw_3, o_bl_4, o_wr_5, o_fa_6, o_pos_7, o_bb_8) => fX5_writeZeros_2 nb p1 n (v2_0 + (1 : Int32)) o_pos_7 o_up_2 o_cw_3 o_bl_4 o_wr_5 o_fa_6 o_bb_8))

def fX5_writeZeros (up : Bool) (cw : Bool) (bl : Int32) (wr : Int32) (fa : Int32) (pos : Int32) (nb : Nat) (bb : Nat → Int32) (p1 : Int32) : Option (Bool × Bool × Int32 × Int32 × Int32 × Int32 × (Nat → Int32)) := fX5_writeZeros_2 nb p1 FU (0 : Int32) pos up cw bl wr fa bb

set_option maxHeartbeats 4000000 in
set_option maxRecDepth 100000 in
theorem cX5_writeZeros_ok (l : Launch) (D : va_G) (y : Nat → ClassId) (ap : Nat) (aw : Nat) (ak : Nat) (ar : Nat) (up : Bool) (cw : Bool) (bl : Int32) (wr : Int32) (fa : Int32) (pos : Int32) (crc : Int32) (nb : Nat) (bb : Nat → Int32) (p1 : Int32) (res : Bool × Bool × Int32 × Int32 × Int32 × Int32 × (Nat → Int32)) (hf : fX5_writeZeros up cw bl wr fa pos nb bb p1 = some res) : CT l D y yX5_writeZeros wsX5_writeZeros ({ frames := 2, cells := 0, slots := 0, locals := 43 } : Room) [.ref ap, .int p1] [(ap, .inr (4, [.ref aw, .ref ak, .int pos, .int crc])), (aw, .inr (5, [.int (zb up), .int (zb cw), .int bl, .int wr, .int fa])), (ak, .inr (0, [.ref ar])), (ar, .inl (y 0, nb, .inl bb))] (none) [(ap, .inr (4, [.ref aw, .ref ak, .int res.2.2.2.2.2.1, .int crc])), (aw, .inr (5, [.int (zb res.1), .int (zb res.2.1), .int res.2.2.1, .int res.2.2.2.1, .int res.2.2.2.2.1])), (ak, .inr (0, [.ref ar])), (ar, .inl (y 0, nb, .inl res.2.2.2.2.2.2))] := by
  intro sz
  refine Met.ofW (cc := cX5_writeZeros) (maxL := 3) (ret := none) (by decide) rfl ?_
  intro p e s m args below meth c s₁ B hml hv
  obtain ⟨rfl, hsz, hP, hK, hD0, hst, hno⟩ := hv
  have hx := B.exec
  have hb := B.bytes
  have hr := B.returns
  have hts := atoms_spec (ws := wsX5_writeZeros) B.pre
  have hown : s.vm.findClass RX5 = some m.cls := findClass_of_methodNamed B.named
  have hlocks := B.notSynchronized
  subst hsz
  have hD := hD0.self (sz := s.heap.size)
  generalize hAe : va_A [(ap, .inr (4, [.ref aw, .ref ak, .int pos, .int crc])), (aw, .inr (5, [.int (zb up), .int (zb cw), .int bl, .int wr, .int fa])), (ak, .inr (0, [.ref ar])), (ar, .inl (y 0, nb, .inl bb))] s.heap.size = A at hD hst ⊢
  have hA : ∀ q : Nat, s.heap.size ≤ q → A q := fun q h => by rw [← hAe]; exact Or.inr h
  have hS : va_S A s.heap s.heap [] := va_S.rf
  have E : Ev D y A s := ⟨hK, hst, hno, hA⟩
  have hfix : CallFix p m c cX5_writeZeros 3 s _ wsX5_writeZeros RX5 := ⟨hx, hb, hml, hown, hts⟩
  have hP : va_P D vwCl [(ap, .inr (4, [.ref aw, .ref ak, .int pos, .int crc])), (aw, .inr (5, [.int (zb up), .int (zb cw), .int bl, .int wr, .int fa])), (ak, .inr (0, [.ref ar])), (ar, .inl (y 0, nb, .inl bb))] s.heap := hP
  have hl := lv_entry ([.ref ap, .int p1]) (n := 3) (Nat.le_of_ble_eq_true rfl)
  rw [lg_entry_eq]
  generalize (lg_sl ([.ref ap, .int p1]) ++ List.replicate (3 - (lg_sl ([.ref ap, .int p1])).length) Slot.unset).toArray = ls at hl ⊢
  have hl : lv_has ls 3 [(0, .ref ap), (1, .int p1)] := hl
  have hL2 : ∀ (n : Nat) (v2_0 : Int32) (v2_1 : Int32) (v2_2 : Bool) (v2_3 : Bool) (v2_4 : Int32) (v2_5 : Int32) (v2_6 : Int32) (v2_7 : Nat → Int32) (H : Heap) (locs : List Loc) (ls : Array Slot), fX5_writeZeros_2 nb p1 n v2_0 v2_1 v2_2 v2_3 v2_4 v2_5 v2_6 v2_7 = some res → va_P D vwCl [(ap, .inr (4, [.ref aw, .ref ak, .int v2_1, .int crc])), (aw, .inr (5, [.int (zb v2_2), .int (zb v2_3), .int v2_4, .int v2_5, .int v2_6])), (ak, .inr (0, [.ref ar])), (ar, .inl (y 0, nb, .inl v2_7))] H → va_D A [(ap, .inr (4, [.ref aw, .ref ak, .int v2_1, .int crc])), (aw, .inr (5, [.int (zb v2_2), .int (zb v2_3), .int v2_4, .int v2_5, .int v2_6])), (ak, .inr (0, [.ref ar])), (ar, .inl (y 0, nb, .inl v2_7))] → va_S A s.heap H locs → lv_has ls 3 [(0, .ref ap), (1, .int p1), (2, .int v2_0)] → W p l e (headSpec wsX5_writeZeros ({ frames := 2, cells := 0, slots := 0, locals := 43 } : Room)).room s m ([.ref ap, .int p1] : List Value).toArray below meth c H locs 0 0 (MQ below (Po D (fun _ : Unit => none) (fun _ => [(ap, .inr (4, [.ref aw, .ref ak, .int res.2.2.2.2.2.1, .int crc])), (aw, .inr (5, [.int (zb res.1), .int (zb res.2.1), .int res.2.2.1, .int res.2.2.2.1, .int res.2.2.2.2.1])), (ak, .inr (0, [.ref ar])), (ar, .inl (y 0, nb, .inl res.2.2.2.2.2.2))]) A) ([.ref ap, .int p1] : List Value).toArray s 0 0 A) (F0 m 2 ls []) := by
    intro n
    induction n with
    | zero =>
      intro v2_0 v2_1 v2_2 v2_3 v2_4 v2_5 v2_6 v2_7 H locs ls hf
      exact absurd (show (none : Option (Bool × Bool × Int32 × Int32 × Int32 × Int32 × (Nat → Int32))) = some res from hf) (fun q => by cases q)
    | succ n ih2 =>
      intro v2_0 v2_1 v2_2 v2_3 v2_4 v2_5 v2_6 v2_7 H locs ls hf hP hD hS hl
      unfold fX5_writeZeros_2 at hf
      refine lv_iload_n hx hb dX5_writeZeros_2 rfl (lv_at hl 2 rfl) ?_
      refine lv_iload_n hx hb dX5_writeZeros_3 rfl (lv_at hl 1 rfl) ?_
      refine lv_icmp_ge (tgt := 18) hx hb dX5_writeZeros_4 (by decide) (fun c_1 => ?_) (fun c_1 => ?_)
      · have hf := ifp hf c_1
        obtain rfl := Option.some.inj hf
        exact W.vret hx hb hr (fun t ht hW => ⟨⟨(), rfl, by rw [ht]; exact hP, hD⟩, hS.F ht⟩) hS.2.2 dX5_writeZeros_18
      · have hf := ifn hf c_1
        refine lv_aload_n hx hb dX5_writeZeros_7 rfl (lv_at hl 0 rfl) ?_
        refine lv_iconst (v := (0 : Int32)) hx hb dX5_writeZeros_8 (by decide) ?_
        obtain ⟨⟨o_up_2, o_cw_3, o_bl_4, o_wr_5, o_fa_6, o_pos_7, o_bb_8⟩, hc_9, hf⟩ := obd hf
        refine ct_V (As := [.int (0 : Int32)]) (rest := []) (wr := []) (wn := [(ap, .inr (4, [.ref aw, .ref ak, .int o_pos_7, .int crc])), (aw, .inr (5, [.int (zb o_up_2), .int (zb o_cw_3), .int o_bl_4, .int o_wr_5, .int o_fa_6])), (ak, .inr (0, [.ref ar])), (ar, .inl (y 0, nb, .inl o_bb_8))]) hfix (cX5_writeByte_ok l D y ap aw ak ar v2_2 v2_3 v2_4 v2_5 v2_6 v2_1 crc nb v2_7 (0 : Int32) _ hc_9) (cwV 1 hts gX5_writeZeros_X5_writeByte rfl rfl rfl (by decide +kernel) ⟨Nat.le_of_ble_eq_true rfl, Nat.le_of_ble_eq_true rfl⟩) E hP hD hS [0, 1, 2, 3] [] [0, 1, 2, 3] rfl rfl rfl rfl (by decide) rfl rfl 0 4 rfl rfl rfl hl.1 rfl (Nat.le_of_ble_eq_true rfl) dX5_writeZeros_9 ⟨Nat.zero_le _, Nat.zero_le _⟩ (fun H locs hP hD hS => ?_)
        refine W.eq (g2 := F0 m 12 ls []) rfl ?_
        refine lv_iinc (v := (v2_0 + (1 : Int32))) (lv' := [(2, .int (v2_0 + (1 : Int32))), (0, .ref ap), (1, .int p1)]) hx hb dX5_writeZeros_12 hl (k := 2) rfl rfl (by decide) rfl (fun ls hl => ?_)
        refine lv_goto (tgt := 2) hx hb dX5_writeZeros_15 (by decide) ?_
        exact ih2 (v2_0 + (1 : Int32)) o_pos_7 o_up_2 o_cw_3 o_bl_4 o_wr_5 o_fa_6 o_bb_8 _ _ _ hf hP hD hS (lv_sub hl [1, 2, 0] rfl)
  unfold fX5_writeZeros at hf
  refine lv_iconst (v := (0 : Int32)) hx hb dX5_writeZeros_0 (by decide) ?_
  refine lv_istore_n (lv' := [(2, .int (0 : Int32)), (0, .ref ap), (1, .int p1)]) hx hb dX5_writeZeros_1 rfl hl (by decide) rfl (fun ls hl => ?_)
  exact hL2 FU (0 : Int32) pos up cw bl wr fa bb _ _ _ hf hP hD hS (lv_sub hl [1, 2, 0] rfl)

def fX5_writeNumber_5 (nb : Nat) (p1 : Int64) : Nat → Int32 → Int32 → Int32 → Bool → Bool → Int32 → Int32 → Int32 → (Nat → Int32) → Option (Bool × Bool × Int32 × Int32 × Int32 × Int32 × Int32 × (Nat → Int32))
  | 0, _, _, _, _, _, _, _, _, _ => none
  | n + 1, v5_0, v5_1, v5_2, v5_3, v5_4, v5_5, v5_6, v5_7, v5_8 => (if v5_0 < 0 then some (v5_3, v5_4, v5_5, v5_6, v5_7, v5_1, v5_2, v5_8) else ((fX1_step v5_2 (((jlushr p1 ((8 : Int32) * v5_0)).toInt32) &&& (255 : Int32))).bind fun r_2 => ((fX5_writeByte v5_3 v5_4 v5_5 v5_6 v5_7 v5_1 nb v5_8 (((jlushr p1 ((8 : Int32) * v5_0)).toInt32) &&& (255 : Int32))).bind fun (o_up_4, o_cw_5, o_bl_6, o_wr_7, o_fa_8, o_pos_9, o_bb_10) => fX5_writeNumber_5 nb p1 n (v5_0 + (-1 : Int32)) o_pos_9 r_2 o_up_4 o_cw_5 o_bl_6 o_wr_7 o_fa_8 o_bb_10)))

def fX5_writeNumber (up : Bool) (cw : Bool) (bl : Int32) (wr : Int32) (fa : Int32) (pos : Int32) (crc : Int32) (nb : Nat) (bb : Nat → Int32) (p1 : Int64) (p2 : Int32) : Option (Bool × Bool × Int32 × Int32 × Int32 × Int32 × Int32 × (Nat → Int32)) := fX5_writeNumber_5 nb p1 FU (p2 - (1 : Int32)) pos crc up cw bl wr fa bb

set_option maxHeartbeats 4000000 in
set_option maxRecDepth 100000 in
theorem cX5_writeNumber_ok (l : Launch) (D : va_G) (y : Nat → ClassId) (ap : Nat) (aw : Nat) (ak : Nat) (ar : Nat) (up : Bool) (cw : Bool) (bl : Int32) (wr : Int32) (fa : Int32) (pos : Int32) (crc : Int32) (nb : Nat) (bb : Nat → Int32) (p1 : Int64) (p2 : Int32) (res : Bool × Bool × Int32 × Int32 × Int32 × Int32 × Int32 × (Nat → Int32)) (hf : fX5_writeNumber up cw bl wr fa pos crc nb bb p1 p2 = some res) : CT l D y yX5_writeNumber wsX5_writeNumber ({ frames := 2, cells := 0, slots := 0, locals := 43 } : Room) [.ref ap, .long p1, .int p2] [(ap, .inr (4, [.ref aw, .ref ak, .int pos, .int crc])), (aw, .inr (5, [.int (zb up), .int (zb cw), .int bl, .int wr, .int fa])), (ak, .inr (0, [.ref ar])), (ar, .inl (y 0, nb, .inl bb))] (none) [(ap, .inr (4, [.ref aw, .ref ak, .int res.2.2.2.2.2.1, .int res.2.2.2.2.2.2.1])), (aw, .inr (5, [.int (zb res.1), .int (zb res.2.1), .int res.2.2.1, .int res.2.2.2.1, .int res.2.2.2.2.1])), (ak, .inr (0, [.ref ar])), (ar, .inl (y 0, nb, .inl res.2.2.2.2.2.2.2))] := by
  intro sz
  refine Met.ofW (cc := cX5_writeNumber) (maxL := 6) (ret := none) (by decide) rfl ?_
  intro p e s m args below meth c s₁ B hml hv
  obtain ⟨rfl, hsz, hP, hK, hD0, hst, hno⟩ := hv
  have hx := B.exec
  have hb := B.bytes
  have hr := B.returns
  have hts := atoms_spec (ws := wsX5_writeNumber) B.pre
  have hown : s.vm.findClass RX5 = some m.cls := findClass_of_methodNamed B.named
  have hlocks := B.notSynchronized
  subst hsz
  have hD := hD0.self (sz := s.heap.size)
  generalize hAe : va_A [(ap, .inr (4, [.ref aw, .ref ak, .int pos, .int crc])), (aw, .inr (5, [.int (zb up), .int (zb cw), .int bl, .int wr, .int fa])), (ak, .inr (0, [.ref ar])), (ar, .inl (y 0, nb, .inl bb))] s.heap.size = A at hD hst ⊢
  have hA : ∀ q : Nat, s.heap.size ≤ q → A q := fun q h => by rw [← hAe]; exact Or.inr h
  have hS : va_S A s.heap s.heap [] := va_S.rf
  have E : Ev D y A s := ⟨hK, hst, hno, hA⟩
  have hfix : CallFix p m c cX5_writeNumber 6 s _ wsX5_writeNumber RX5 := ⟨hx, hb, hml, hown, hts⟩
  have hP : va_P D vwCl [(ap, .inr (4, [.ref aw, .ref ak, .int pos, .int crc])), (aw, .inr (5, [.int (zb up), .int (zb cw), .int bl, .int wr, .int fa])), (ak, .inr (0, [.ref ar])), (ar, .inl (y 0, nb, .inl bb))] s.heap := hP
  have iX5 : ∀ w ∈ wsX50, w ∈ wsX5_writeNumber := by decide +kernel
  have hl := lv_entry ([.ref ap, .long p1, .int p2]) (n := 6) (Nat.le_of_ble_eq_true rfl)
  rw [lg_entry_eq]
  generalize (lg_sl ([.ref ap, .long p1, .int p2]) ++ List.replicate (6 - (lg_sl ([.ref ap, .long p1, .int p2])).length) Slot.unset).toArray = ls at hl ⊢
  have hl : lv_has ls 6 [(0, .ref ap), (1, .long p1), (3, .int p2)] := hl
  have hL5 : ∀ (n : Nat) (v5_0 : Int32) (v5_1 : Int32) (v5_2 : Int32) (v5_3 : Bool) (v5_4 : Bool) (v5_5 : Int32) (v5_6 : Int32) (v5_7 : Int32) (v5_8 : Nat → Int32) (H : Heap) (locs : List Loc) (ls : Array Slot), fX5_writeNumber_5 nb p1 n v5_0 v5_1 v5_2 v5_3 v5_4 v5_5 v5_6 v5_7 v5_8 = some res → va_P D vwCl [(ap, .inr (4, [.ref aw, .ref ak, .int v5_1, .int v5_2])), (aw, .inr (5, [.int (zb v5_3), .int (zb v5_4), .int v5_5, .int v5_6, .int v5_7])), (ak, .inr (0, [.ref ar])), (ar, .inl (y 0, nb, .inl v5_8))] H → va_D A [(ap, .inr (4, [.ref aw, .ref ak, .int v5_1, .int v5_2])), (aw, .inr (5, [.int (zb v5_3), .int (zb v5_4), .int v5_5, .int v5_6, .int v5_7])), (ak, .inr (0, [.ref ar])), (ar, .inl (y 0, nb, .inl v5_8))] → va_S A s.heap H locs → lv_has ls 6 [(0, .ref ap), (1, .long p1), (3, .int p2), (4, .int v5_0)] → W p l e (headSpec wsX5_writeNumber ({ frames := 2, cells := 0, slots := 0, locals := 43 } : Room)).room s m ([.ref ap, .long p1, .int p2] : List Value).toArray below meth c H locs 0 0 (MQ below (Po D (fun _ : Unit => none) (fun _ => [(ap, .inr (4, [.ref aw, .ref ak, .int res.2.2.2.2.2.1, .int res.2.2.2.2.2.2.1])), (aw, .inr (5, [.int (zb res.1), .int (zb res.2.1), .int res.2.2.1, .int res.2.2.2.1, .int res.2.2.2.2.1])), (ak, .inr (0, [.ref ar])), (ar, .inl (y 0, nb, .inl res.2.2.2.2.2.2.2))]) A) ([.ref ap, .long p1, .int p2] : List Value).toArray s 0 0 A) (F0 m 5 ls []) := by
    intro n
    induction n with
    | zero =>
      intro v5_0 v5_1 v5_2 v5_3 v5_4 v5_5 v5_6 v5_7 v5_8 H locs ls hf
      exact absurd (show (none : Option (Bool × Bool × Int32 × Int32 × Int32 × Int32 × Int32 × (Nat → Int32))) = some res from hf) (fun q => by cases q)
    | succ n ih5 =>
      intro v5_0 v5_1 v5_2 v5_3 v5_4 v5_5 v5_6 v5_7 v5_8 H locs ls hf hP hD hS hl
      unfold fX5_writeNumber_5 at hf
      refine lv_iload hx hb dX5_writeNumber_5 (lv_at hl 3 rfl) ?_
      refine lv_if_lt (tgt := 49) hx hb dX5_writeNumber_7 (by decide) (fun c_1 => ?_) (fun c_1 => ?_)
      · have hf := ifp hf c_1
        obtain rfl := Option.some.inj hf
        exact W.vret hx hb hr (fun t ht hW => ⟨⟨(), rfl, by rw [ht]; exact hP, hD⟩, hS.F ht⟩) hS.2.2 dX5_writeNumber_49
      · have hf := ifn hf c_1
        refine lv_lload_n hx hb dX5_writeNumber_10 rfl (lv_at hl 1 rfl) ?_
        refine lv_bipush (v := (8 : Int32)) hx hb dX5_writeNumber_11 (by decide) ?_
        refine lv_iload hx hb dX5_writeNumber_13 (lv_at hl 3 rfl) ?_
        refine lv_imul hx hb dX5_writeNumber_15 ?_
        refine lv_lushr (v := (jlushr p1 ((8 : Int32) * v5_0))) hx hb dX5_writeNumber_16 rfl ?_
        refine lv_l2i (v := ((jlushr p1 ((8 : Int32) * v5_0)).toInt32)) hx hb dX5_writeNumber_17 rfl ?_
        refine lv_sipush (v := (255 : Int32)) hx hb dX5_writeNumber_18 (by decide) ?_
        refine lv_iand hx hb dX5_writeNumber_21 ?_
        refine lv_istore (lv' := [(5, .int (((jlushr p1 ((8 : Int32) * v5_0)).toInt32) &&& (255 : Int32))), (0, .ref ap), (1, .long p1), (3, .int p2), (4, .int v5_0)]) hx hb dX5_writeNumber_22 hl (by decide) rfl (fun ls hl => ?_)
        refine lv_aload_n hx hb dX5_writeNumber_24 rfl (lv_at hl 1 rfl) ?_
        refine lv_aload_n hx hb dX5_writeNumber_25 rfl (lv_at hl 1 rfl) ?_
        refine va_get (D := D) (ci := 4) (v := .int v5_2) (C := RX5) (T := TX5) (N := 4) hx hb hts iX5 hown hK hP 0 rfl rfl 3 (by decide) (hts (.fieldLink RX5 17 "SampleTracker$Pen" "crc" "I") (by decide +kernel)) (fun _ h9 => h9) rfl dX5_writeNumber_26 ?_
        refine lv_iload hx hb dX5_writeNumber_29 (lv_at hl 0 rfl) ?_
        obtain ⟨r_2, hc_3, hf⟩ := obd hf
        refine ct_S (As := [.int v5_2, .int (((jlushr p1 ((8 : Int32) * v5_0)).toInt32) &&& (255 : Int32))]) (rest := [.ref ap]) (wr := [(ap, .inr (4, [.ref aw, .ref ak, .int v5_1, .int v5_2])), (aw, .inr (5, [.int (zb v5_3), .int (zb v5_4), .int v5_5, .int v5_6, .int v5_7])), (ak, .inr (0, [.ref ar])), (ar, .inl (y 0, nb, .inl v5_8))]) (wn := [(ap, .inr (4, [.ref aw, .ref ak, .int v5_1, .int v5_2])), (aw, .inr (5, [.int (zb v5_3), .int (zb v5_4), .int v5_5, .int v5_6, .int v5_7])), (ak, .inr (0, [.ref ar])), (ar, .inl (y 0, nb, .inl v5_8))]) hfix (cX1_step_ok l D y v5_2 (((jlushr p1 ((8 : Int32) * v5_0)).toInt32) &&& (255 : Int32)) _ hc_3) (va_cwS 2 hts gX5_writeNumber_X1_step rfl rfl rfl (by decide +kernel) ⟨Nat.le_of_ble_eq_true rfl, Nat.le_of_ble_eq_true rfl⟩) E hP hD hS [] [0, 1, 2, 3] [0, 1, 2, 3] rfl rfl rfl rfl (by decide) rfl rfl rfl hl.1 rfl (Nat.le_of_ble_eq_true rfl) dX5_writeNumber_31 ⟨Nat.zero_le _, Nat.zero_le _⟩ (fun H locs hP hD hS => ?_)
        refine W.eq (g2 := F0 m 34 ls [.int r_2, .ref ap]) rfl ?_
        refine va_put (D := D) (ci := 4) (v := .int r_2) (ty := .int) (C := RX5) (T := TX5) (N := 4) hx hb hts iX5 tyX5 tyX5_ok nmX5 hown hK hP hD hS 0 rfl rfl 3 (by decide) (hts (.fieldLink RX5 17 "SampleTracker$Pen" "crc" "I") (by decide +kernel)) (fun _ h9 => h9) rfl (by decide +kernel) rfl rfl (Nat.le_of_ble_eq_true rfl) dX5_writeNumber_34 (fun H locs hP hD hS => ?_)
        have hP : va_P D vwCl [(ap, .inr (4, [.ref aw, .ref ak, .int v5_1, .int r_2])), (aw, .inr (5, [.int (zb v5_3), .int (zb v5_4), .int v5_5, .int v5_6, .int v5_7])), (ak, .inr (0, [.ref ar])), (ar, .inl (y 0, nb, .inl v5_8))] H := hP
        have hD : va_D A [(ap, .inr (4, [.ref aw, .ref ak, .int v5_1, .int r_2])), (aw, .inr (5, [.int (zb v5_3), .int (zb v5_4), .int v5_5, .int v5_6, .int v5_7])), (ak, .inr (0, [.ref ar])), (ar, .inl (y 0, nb, .inl v5_8))] := hD
        refine lv_aload_n hx hb dX5_writeNumber_37 rfl (lv_at hl 1 rfl) ?_
        refine lv_iload hx hb dX5_writeNumber_38 (lv_at hl 0 rfl) ?_
        obtain ⟨⟨o_up_4, o_cw_5, o_bl_6, o_wr_7, o_fa_8, o_pos_9, o_bb_10⟩, hc_11, hf⟩ := obd hf
        refine ct_V (As := [.int (((jlushr p1 ((8 : Int32) * v5_0)).toInt32) &&& (255 : Int32))]) (rest := []) (wr := []) (wn := [(ap, .inr (4, [.ref aw, .ref ak, .int o_pos_9, .int r_2])), (aw, .inr (5, [.int (zb o_up_4), .int (zb o_cw_5), .int o_bl_6, .int o_wr_7, .int o_fa_8])), (ak, .inr (0, [.ref ar])), (ar, .inl (y 0, nb, .inl o_bb_10))]) hfix (cX5_writeByte_ok l D y ap aw ak ar v5_3 v5_4 v5_5 v5_6 v5_7 v5_1 r_2 nb v5_8 (((jlushr p1 ((8 : Int32) * v5_0)).toInt32) &&& (255 : Int32)) _ hc_11) (cwV 1 hts gX5_writeNumber_X5_writeByte rfl rfl rfl (by decide +kernel) ⟨Nat.le_of_ble_eq_true rfl, Nat.le_of_ble_eq_true rfl⟩) E hP hD hS [0, 1, 2, 3] [] [0, 1, 2, 3] rfl rfl rfl rfl (by decide) rfl rfl 0 4 rfl rfl rfl hl.1 rfl (Nat.le_of_ble_eq_true rfl) dX5_writeNumber_40 ⟨Nat.zero_le _, Nat.zero_le _⟩ (fun H locs hP hD hS => ?_)
        refine W.eq (g2 := F0 m 43 ls []) rfl ?_
        refine lv_iinc (v := (v5_0 + (-1 : Int32))) (lv' := [(4, .int (v5_0 + (-1 : Int32))), (5, .int (((jlushr p1 ((8 : Int32) * v5_0)).toInt32) &&& (255 : Int32))), (0, .ref ap), (1, .long p1), (3, .int p2)]) hx hb dX5_writeNumber_43 hl (k := 4) rfl rfl (by decide) rfl (fun ls hl => ?_)
        refine lv_goto (tgt := 5) hx hb dX5_writeNumber_46 (by decide) ?_
        exact ih5 (v5_0 + (-1 : Int32)) o_pos_9 r_2 o_up_4 o_cw_5 o_bl_6 o_wr_7 o_fa_8 o_bb_10 _ _ _ hf hP hD hS (lv_sub hl [2, 3, 4, 0] rfl)
  unfold fX5_writeNumber at hf
  refine lv_iload_n hx hb dX5_writeNumber_0 rfl (lv_at hl 2 rfl) ?_
  refine lv_iconst (v := (1 : Int32)) hx hb dX5_writeNumber_1 (by decide) ?_
  refine lv_isub hx hb dX5_writeNumber_2 ?_
  refine lv_istore (lv' := [(4, .int (p2 - (1 : Int32))), (0, .ref ap), (1, .long p1), (3, .int p2)]) hx hb dX5_writeNumber_3 hl (by decide) rfl (fun ls hl => ?_)
  exact hL5 FU (p2 - (1 : Int32)) pos crc up cw bl wr fa bb _ _ _ hf hP hD hS (lv_sub hl [1, 2, 3, 0] rfl)

def fX5_writeHead (up : Bool) (cw : Bool) (bl : Int32) (wr : Int32) (fa : Int32) (pos : Int32) (nb : Nat) (bb : Nat → Int32) (p1 : Int32) : Option (Bool × Bool × Int32 × Int32 × Int32 × Int32 × Int32 × (Nat → Int32)) := ((fX5_writeNumber up cw bl wr fa pos (-1 : Int32) nb bb (p1.toInt64) (4 : Int32)).bind fun (o_up_1, o_cw_2, o_bl_3, o_wr_4, o_fa_5, o_pos_6, o_crc_7, o_bb_8) => ((fX5_writeNumber o_up_1 o_cw_2 o_bl_3 o_wr_4 o_fa_5 o_pos_6 o_crc_7 nb o_bb_8 ((o_crc_7 ^^^ (-1 : Int32)).toInt64) (4 : Int32)).bind fun (o_up_11, o_cw_12, o_bl_13, o_wr_14, o_fa_15, o_pos_16, o_crc_17, o_bb_18) => ((fX5_writeByte o_up_11 o_cw_12 o_bl_13 o_wr_14 o_fa_15 o_pos_16 nb o_bb_18 (165 : Int32)).bind fun (o_up_20, o_cw_21, o_bl_22, o_wr_23, o_fa_24, o_pos_25, o_bb_26) => some (o_up_20, o_cw_21, o_bl_22, o_wr_23, o_fa_24, o_pos_25, o_crc_17, o_bb_26))))

set_option maxHeartbeats 4000000 in
set_option maxRecDepth 100000 in
theorem cX5_writeHead_ok (l : Launch) (D : va_G) (y : Nat → ClassId) (ap : Nat) (aw : Nat) (ak : Nat) (ar : Nat) (up : Bool) (cw : Bool) (bl : Int32) (wr : Int32) (fa : Int32) (pos : Int32) (crc : Int32) (nb : Nat) (bb : Nat → Int32) (p1 : Int32) (res : Bool × Bool × Int32 × Int32 × Int32 × Int32 × Int32 × (Nat → Int32)) (hf : fX5_writeHead up cw bl wr fa pos nb bb p1 = some res) : CT l D y yX5_writeHead wsX5_writeHead ({ frames := 3, cells := 0, slots := 0, locals := 68 } : Room) [.ref ap, .int p1] [(ap, .inr (4, [.ref aw, .ref ak, .int pos, .int crc])), (aw, .inr (5, [.int (zb up), .int (zb cw), .int bl, .int wr, .int fa])), (ak, .inr (0, [.ref ar])), (ar, .inl (y 0, nb, .inl bb))] (none) [(ap, .inr (4, [.ref aw, .ref ak, .int res.2.2.2.2.2.1, .int res.2.2.2.2.2.2.1])), (aw, .inr (5, [.int (zb res.1), .int (zb res.2.1), .int res.2.2.1, .int res.2.2.2.1, .int res.2.2.2.2.1])), (ak, .inr (0, [.ref ar])), (ar, .inl (y 0, nb, .inl res.2.2.2.2.2.2.2))] := by
  intro sz
  refine Met.ofW (cc := cX5_writeHead) (maxL := 2) (ret := none) (by decide) rfl ?_
  intro p e s m args below meth c s₁ B hml hv
  obtain ⟨rfl, hsz, hP, hK, hD0, hst, hno⟩ := hv
  have hx := B.exec
  have hb := B.bytes
  have hr := B.returns
  have hts := atoms_spec (ws := wsX5_writeHead) B.pre
  have hown : s.vm.findClass RX5 = some m.cls := findClass_of_methodNamed B.named
  have hlocks := B.notSynchronized
  subst hsz
  have hD := hD0.self (sz := s.heap.size)
  generalize hAe : va_A [(ap, .inr (4, [.ref aw, .ref ak, .int pos, .int crc])), (aw, .inr (5, [.int (zb up), .int (zb cw), .int bl, .int wr, .int fa])), (ak, .inr (0, [.ref ar])), (ar, .inl (y 0, nb, .inl bb))] s.heap.size = A at hD hst ⊢
  have hA : ∀ q : Nat, s.heap.size ≤ q → A q := fun q h => by rw [← hAe]; exact Or.inr h
  have hS : va_S A s.heap s.heap [] := va_S.rf
  have E : Ev D y A s := ⟨hK, hst, hno, hA⟩
  have hfix : CallFix p m c cX5_writeHead 2 s _ wsX5_writeHead RX5 := ⟨hx, hb, hml, hown, hts⟩
  have hP : va_P D vwCl [(ap, .inr (4, [.ref aw, .ref ak, .int pos, .int crc])), (aw, .inr (5, [.int (zb up), .int (zb cw), .int bl, .int wr, .int fa])), (ak, .inr (0, [.ref ar])), (ar, .inl (y 0, nb, .inl bb))] s.heap := hP
  have iX5 : ∀ w ∈ wsX50, w ∈ wsX5_writeHead := by decide +kernel
  have hl := lv_entry ([.ref ap, .int p1]) (n := 2) (Nat.le_of_ble_eq_true rfl)
  rw [lg_entry_eq]
  generalize (lg_sl ([.ref ap, .int p1]) ++ List.replicate (2 - (lg_sl ([.ref ap, .int p1])).length) Slot.unset).toArray = ls at hl ⊢
  have hl : lv_has ls 2 [(0, .ref ap), (1, .int p1)] := hl
  unfold fX5_writeHead at hf
  refine lv_aload_n hx hb dX5_writeHead_0 rfl (lv_at hl 0 rfl) ?_
  refine lv_iconst (v := (-1 : Int32)) hx hb dX5_writeHead_1 (by decide) ?_
  refine va_put (D := D) (ci := 4) (v := .int (-1 : Int32)) (ty := .int) (C := RX5) (T := TX5) (N := 4) hx hb hts iX5 tyX5 tyX5_ok nmX5 hown hK hP hD hS 0 rfl rfl 3 (by decide) (hts (.fieldLink RX5 17 "SampleTracker$Pen" "crc" "I") (by decide +kernel)) (fun _ h9 => h9) rfl (by decide +kernel) rfl rfl (Nat.le_of_ble_eq_true rfl) dX5_writeHead_2 (fun H locs hP hD hS => ?_)
  have hP : va_P D vwCl [(ap, .inr (4, [.ref aw, .ref ak, .int pos, .int (-1 : Int32)])), (aw, .inr (5, [.int (zb up), .int (zb cw), .int bl, .int wr, .int fa])), (ak, .inr (0, [.ref ar])), (ar, .inl (y 0, nb, .inl bb))] H := hP
  have hD : va_D A [(ap, .inr (4, [.ref aw, .ref ak, .int pos, .int (-1 : Int32)])), (aw, .inr (5, [.int (zb up), .int (zb cw), .int bl, .int wr, .int fa])), (ak, .inr (0, [.ref ar])), (ar, .inl (y 0, nb, .inl bb))] := hD
  refine lv_aload_n hx hb dX5_writeHead_5 rfl (lv_at hl 0 rfl) ?_
  refine lv_iload_n hx hb dX5_writeHead_6 rfl (lv_at hl 1 rfl) ?_
  refine lv_i2l (v := (p1.toInt64)) hx hb dX5_writeHead_7 rfl ?_
  refine lv_iconst (v := (4 : Int32)) hx hb dX5_writeHead_8 (by decide) ?_
  obtain ⟨⟨o_up_1, o_cw_2, o_bl_3, o_wr_4, o_fa_5, o_pos_6, o_crc_7, o_bb_8⟩, hc_9, hf⟩ := obd hf
  refine ct_V (As := [.long (p1.toInt64), .int (4 : Int32)]) (rest := []) (wr := []) (wn := [(ap, .inr (4, [.ref aw, .ref ak, .int o_pos_6, .int o_crc_7])), (aw, .inr (5, [.int (zb o_up_1), .int (zb o_cw_2), .int o_bl_3, .int o_wr_4, .int o_fa_5])), (ak, .inr (0, [.ref ar])), (ar, .inl (y 0, nb, .inl o_bb_8))]) hfix (cX5_writeNumber_ok l D y ap aw ak ar up cw bl wr fa pos (-1 : Int32) nb bb (p1.toInt64) (4 : Int32) _ hc_9) (cwV 2 hts gX5_writeHead_X5_writeNumber rfl rfl rfl (by decide +kernel) ⟨Nat.le_of_ble_eq_true rfl, Nat.le_of_ble_eq_true rfl⟩) E hP hD hS [0, 1, 2, 3] [] [0, 1, 2, 3] rfl rfl rfl rfl (by decide) rfl rfl 0 4 rfl rfl rfl hl.1 rfl (Nat.le_of_ble_eq_true rfl) dX5_writeHead_9 ⟨Nat.zero_le _, Nat.zero_le _⟩ (fun H locs hP hD hS => ?_)
  refine W.eq (g2 := F0 m 12 ls []) rfl ?_
  refine lv_aload_n hx hb dX5_writeHead_12 rfl (lv_at hl 0 rfl) ?_
  refine lv_aload_n hx hb dX5_writeHead_13 rfl (lv_at hl 0 rfl) ?_
  refine va_get (D := D) (ci := 4) (v := .int o_crc_7) (C := RX5) (T := TX5) (N := 4) hx hb hts iX5 hown hK hP 0 rfl rfl 3 (by decide) (hts (.fieldLink RX5 17 "SampleTracker$Pen" "crc" "I") (by decide +kernel)) (fun _ h9 => h9) rfl dX5_writeHead_14 ?_
  refine ct_S (As := [.int o_crc_7]) (rest := [.ref ap]) (wr := [(ap, .inr (4, [.ref aw, .ref ak, .int o_pos_6, .int o_crc_7])), (aw, .inr (5, [.int (zb o_up_1), .int (zb o_cw_2), .int o_bl_3, .int o_wr_4, .int o_fa_5])), (ak, .inr (0, [.ref ar])), (ar, .inl (y 0, nb, .inl o_bb_8))]) (wn := [(ap, .inr (4, [.ref aw, .ref ak, .int o_pos_6, .int o_crc_7])), (aw, .inr (5, [.int (zb o_up_1), .int (zb o_cw_2), .int o_bl_3, .int o_wr_4, .int o_fa_5])), (ak, .inr (0, [.ref ar])), (ar, .inl (y 0, nb, .inl o_bb_8))]) hfix (cX1_end_ok l D y o_crc_7) (va_cwS 1 hts gX5_writeHead_X1_end rfl rfl rfl (by decide +kernel) ⟨Nat.le_of_ble_eq_true rfl, Nat.le_of_ble_eq_true rfl⟩) E hP hD hS [] [0, 1, 2, 3] [0, 1, 2, 3] rfl rfl rfl rfl (by decide) rfl rfl rfl hl.1 rfl (Nat.le_of_ble_eq_true rfl) dX5_writeHead_17 ⟨Nat.zero_le _, Nat.zero_le _⟩ (fun H locs hP hD hS => ?_)
  refine W.eq (g2 := F0 m 20 ls [.int (o_crc_7 ^^^ (-1 : Int32)), .ref ap]) rfl ?_
  refine lv_i2l (v := ((o_crc_7 ^^^ (-1 : Int32)).toInt64)) hx hb dX5_writeHead_20 rfl ?_
  refine lv_iconst (v := (4 : Int32)) hx hb dX5_writeHead_21 (by decide) ?_
  obtain ⟨⟨o_up_11, o_cw_12, o_bl_13, o_wr_14, o_fa_15, o_pos_16, o_crc_17, o_bb_18⟩, hc_19, hf⟩ := obd hf
  refine ct_V (As := [.long ((o_crc_7 ^^^ (-1 : Int32)).toInt64), .int (4 : Int32)]) (rest := []) (wr := []) (wn := [(ap, .inr (4, [.ref aw, .ref ak, .int o_pos_16, .int o_crc_17])), (aw, .inr (5, [.int (zb o_up_11), .int (zb o_cw_12), .int o_bl_13, .int o_wr_14, .int o_fa_15])), (ak, .inr (0, [.ref ar])), (ar, .inl (y 0, nb, .inl o_bb_18))]) hfix (cX5_writeNumber_ok l D y ap aw ak ar o_up_1 o_cw_2 o_bl_3 o_wr_4 o_fa_5 o_pos_6 o_crc_7 nb o_bb_8 ((o_crc_7 ^^^ (-1 : Int32)).toInt64) (4 : Int32) _ hc_19) (cwV 2 hts gX5_writeHead_X5_writeNumber rfl rfl rfl (by decide +kernel) ⟨Nat.le_of_ble_eq_true rfl, Nat.le_of_ble_eq_true rfl⟩) E hP hD hS [0, 1, 2, 3] [] [0, 1, 2, 3] rfl rfl rfl rfl (by decide) rfl rfl 0 4 rfl rfl rfl hl.1 rfl (Nat.le_of_ble_eq_true rfl) dX5_writeHead_22 ⟨Nat.zero_le _, Nat.zero_le _⟩ (fun H locs hP hD hS => ?_)
  refine W.eq (g2 := F0 m 25 ls []) rfl ?_
  refine lv_aload_n hx hb dX5_writeHead_25 rfl (lv_at hl 0 rfl) ?_
  refine lv_sipush (v := (165 : Int32)) hx hb dX5_writeHead_26 (by decide) ?_
  obtain ⟨⟨o_up_20, o_cw_21, o_bl_22, o_wr_23, o_fa_24, o_pos_25, o_bb_26⟩, hc_27, hf⟩ := obd hf
  refine ct_V (As := [.int (165 : Int32)]) (rest := []) (wr := []) (wn := [(ap, .inr (4, [.ref aw, .ref ak, .int o_pos_25, .int o_crc_17])), (aw, .inr (5, [.int (zb o_up_20), .int (zb o_cw_21), .int o_bl_22, .int o_wr_23, .int o_fa_24])), (ak, .inr (0, [.ref ar])), (ar, .inl (y 0, nb, .inl o_bb_26))]) hfix (cX5_writeByte_ok l D y ap aw ak ar o_up_11 o_cw_12 o_bl_13 o_wr_14 o_fa_15 o_pos_16 o_crc_17 nb o_bb_18 (165 : Int32) _ hc_27) (cwV 1 hts gX5_writeHead_X5_writeByte rfl rfl rfl (by decide +kernel) ⟨Nat.le_of_ble_eq_true rfl, Nat.le_of_ble_eq_true rfl⟩) E hP hD hS [0, 1, 2, 3] [] [0, 1, 2, 3] rfl rfl rfl rfl (by decide) rfl rfl 0 4 rfl rfl rfl hl.1 rfl (Nat.le_of_ble_eq_true rfl) dX5_writeHead_29 ⟨Nat.zero_le _, Nat.zero_le _⟩ (fun H locs hP hD hS => ?_)
  refine W.eq (g2 := F0 m 32 ls []) rfl ?_
  obtain rfl := Option.some.inj hf
  exact W.vret hx hb hr (fun t ht hW => ⟨⟨(), rfl, by rw [ht]; exact hP, hD⟩, hS.F ht⟩) hS.2.2 dX5_writeHead_32

def fX5_writeRecord (up : Bool) (cw : Bool) (bl : Int32) (wr : Int32) (fa : Int32) (pos : Int32) (nb : Nat) (bb : Nat → Int32) (ek : Int32) (es : Int32) (ew : Int32) (ev : Int64) : Option (Bool × Bool × Int32 × Int32 × Int32 × Int32 × Int32 × (Nat → Int32)) := ((fX2_length ek).bind fun r_1 => ((fX5_writeNumber up cw bl wr fa pos (-1 : Int32) nb bb (r_1.toInt64) (2 : Int32)).bind fun (o_up_3, o_cw_4, o_bl_5, o_wr_6, o_fa_7, o_pos_8, o_crc_9, o_bb_10) => ((fX5_writeNumber o_up_3 o_cw_4 o_bl_5 o_wr_6 o_fa_7 o_pos_8 o_crc_9 nb o_bb_10 (ek.toInt64) (1 : Int32)).bind fun (o_up_12, o_cw_13, o_bl_14, o_wr_15, o_fa_16, o_pos_17, o_crc_18, o_bb_19) => ((fX2_hasSample ek).bind fun r_21 => (if (zb r_21) = 0 then ((fX2_hasWell ek).bind fun r_24 => (if (zb r_24) = 0 then ((fX2_hasVolume ek).bind fun r_27 => (if (zb r_27) = 0 then ((fX5_writeNumber o_up_12 o_cw_13 o_bl_14 o_wr_15 o_fa_16 o_pos_17 o_crc_18 nb o_bb_19 ((o_crc_18 ^^^ (-1 : Int32)).toInt64) (4 : Int32)).bind fun (o_up_31, o_cw_32, o_bl_33, o_wr_34, o_fa_35, o_pos_36, o_crc_37, o_bb_38) => ((fX5_writeByte o_up_31 o_cw_32 o_bl_33 o_wr_34 o_fa_35 o_pos_36 nb o_bb_38 (165 : Int32)).bind fun (o_up_40, o_cw_41, o_bl_42, o_wr_43, o_fa_44, o_pos_45, o_bb_46) => some (o_up_40, o_cw_41, o_bl_42, o_wr_43, o_fa_44, o_pos_45, o_crc_37, o_bb_46))) else ((fX5_writeNumber o_up_12 o_cw_13 o_bl_14 o_wr_15 o_fa_16 o_pos_17 o_crc_18 nb o_bb_19 ev (8 : Int32)).bind fun (o_up_48, o_cw_49, o_bl_50, o_wr_51, o_fa_52, o_pos_53, o_crc_54, o_bb_55) => ((fX5_writeNumber o_up_48 o_cw_49 o_bl_50 o_wr_51 o_fa_52 o_pos_53 o_crc_54 nb o_bb_55 ((o_crc_54 ^^^ (-1 : Int32)).toInt64) (4 : Int32)).bind fun (o_up_58, o_cw_59, o_bl_60, o_wr_61, o_fa_62, o_pos_63, o_crc_64, o_bb_65) => ((fX5_writeByte o_up_58 o_cw_59 o_bl_60 o_wr_61 o_fa_62 o_pos_63 nb o_bb_65 (165 : Int32)).bind fun (o_up_67, o_cw_68, o_bl_69, o_wr_70, o_fa_71, o_pos_72, o_bb_73) => some (o_up_67, o_cw_68, o_bl_69, o_wr_70, o_fa_71, o_pos_72, o_crc_64, o_bb_73)))))) else ((fX5_writeNumber o_up_12 o_cw_13 o_bl_14 o_wr_15 o_fa_16 o_pos_17 o_crc_18 nb o_bb_19 (ew.toInt64) (1 : Int32)).bind fun (o_up_75, o_cw_76, o_bl_77, o_wr_78, o_fa_79, o_pos_80, o_crc_81, o_bb_82) => ((fX2_hasVolume ek).bind fun r_84 => (if (zb r_84) = 0 then ((fX5_writeNumber o_up_75 o_cw_76 o_bl_77 o_wr_78 o_fa_79 o_pos_80 o_crc_81 nb o_bb_82 ((o_crc_81 ^^^ (-1 : Int32)).toInt64) (4 : Int32)).bind fun (o_up_88, o_cw_89, o_bl_90, o_wr_91, o_fa_92, o_pos_93, o_crc_94, o_bb_95) => ((fX5_writeByte o_up_88 o_cw_89 o_bl_90 o_wr_91 o_fa_92 o_pos_93 nb o_bb_95 (165 : Int32)).bind fun (o_up_97, o_cw_98, o_bl_99, o_wr_100, o_fa_101, o_pos_102, o_bb_103) => some (o_up_97, o_cw_98, o_bl_99, o_wr_100, o_fa_101, o_pos_102, o_crc_94, o_bb_103))) else ((fX5_writeNumber o_up_75 o_cw_76 o_bl_77 o_wr_78 o_fa_79 o_pos_80 o_crc_81 nb o_bb_82 ev (8 : Int32)).bind fun (o_up_105, o_cw_106, o_bl_107, o_wr_108, o_fa_109, o_pos_110, o_crc_111, o_bb_112) => ((fX5_writeNumber o_up_105 o_cw_106 o_bl_107 o_wr_108 o_fa_109 o_pos_110 o_crc_111 nb o_bb_112 ((o_crc_111 ^^^ (-1 : Int32)).toInt64) (4 : Int32)).bind fun (o_up_115, o_cw_116, o_bl_117, o_wr_118, o_fa_119, o_pos_120, o_crc_121, o_bb_122) => ((fX5_writeByte o_up_115 o_cw_116 o_bl_117 o_wr_118 o_fa_119 o_pos_120 nb o_bb_122 (165 : Int32)).bind fun (o_up_124, o_cw_125, o_bl_126, o_wr_127, o_fa_128, o_pos_129, o_bb_130) => some (o_up_124, o_cw_125, o_bl_126, o_wr_127, o_fa_128, o_pos_129, o_crc_121, o_bb_130))))))))) else ((fX5_writeNumber o_up_12 o_cw_13 o_bl_14 o_wr_15 o_fa_16 o_pos_17 o_crc_18 nb o_bb_19 (es.toInt64) (2 : Int32)).bind fun (o_up_132, o_cw_133, o_bl_134, o_wr_135, o_fa_136, o_pos_137, o_crc_138, o_bb_139) => ((fX2_hasWell ek).bind fun r_141 => (if (zb r_141) = 0 then ((fX2_hasVolume ek).bind fun r_144 => (if (zb r_144) = 0 then ((fX5_writeNumber o_up_132 o_cw_133 o_bl_134 o_wr_135 o_fa_136 o_pos_137 o_crc_138 nb o_bb_139 ((o_crc_138 ^^^ (-1 : Int32)).toInt64) (4 : Int32)).bind fun (o_up_148, o_cw_149, o_bl_150, o_wr_151, o_fa_152, o_pos_153, o_crc_154, o_bb_155) => ((fX5_writeByte o_up_148 o_cw_149 o_bl_150 o_wr_151 o_fa_152 o_pos_153 nb o_bb_155 (165 : Int32)).bind fun (o_up_157, o_cw_158, o_bl_159, o_wr_160, o_fa_161, o_pos_162, o_bb_163) => some (o_up_157, o_cw_158, o_bl_159, o_wr_160, o_fa_161, o_pos_162, o_crc_154, o_bb_163))) else ((fX5_writeNumber o_up_132 o_cw_133 o_bl_134 o_wr_135 o_fa_136 o_pos_137 o_crc_138 nb o_bb_139 ev (8 : Int32)).bind fun (o_up_165, o_cw_166, o_bl_167, o_wr_168, o_fa_169, o_pos_170, o_crc_171, o_bb_172) => ((fX5_writeNumber o_up_165 o_cw_166 o_bl_167 o_wr_168 o_fa_169 o_pos_170 o_crc_171 nb o_bb_172 ((o_crc_171 ^^^ (-1 : Int32)).toInt64) (4 : Int32)).bind fun (o_up_175, o_cw_176, o_bl_177, o_wr_178, o_fa_179, o_pos_180, o_crc_181, o_bb_182) => ((fX5_writeByte o_up_175 o_cw_176 o_bl_177 o_wr_178 o_fa_179 o_pos_180 nb o_bb_182 (165 : Int32)).bind fun (o_up_184, o_cw_185, o_bl_186, o_wr_187, o_fa_188, o_pos_189, o_bb_190) => some (o_up_184, o_cw_185, o_bl_186, o_wr_187, o_fa_188, o_pos_189, o_crc_181, o_bb_190)))))) else ((fX5_writeNumber o_up_132 o_cw_133 o_bl_134 o_wr_135 o_fa_136 o_pos_137 o_crc_138 nb o_bb_139 (ew.toInt64) (1 : Int32)).bind fun (o_up_192, o_cw_193, o_bl_194, o_wr_195, o_fa_196, o_pos_197, o_crc_198, o_bb_199) => ((fX2_hasVolume ek).bind fun r_201 => (if (zb r_201) = 0 then ((fX5_writeNumber o_up_192 o_cw_193 o_bl_194 o_wr_195 o_fa_196 o_pos_197 o_crc_198 nb o_bb_199 ((o_crc_198 ^^^ (-1 : Int32)).toInt64) (4 : Int32)).bind fun (o_up_205, o_cw_206, o_bl_207, o_wr_208, o_fa_209, o_pos_210, o_crc_211, o_bb_212) => ((fX5_writeByte o_up_205 o_cw_206 o_bl_207 o_wr_208 o_fa_209 o_pos_210 nb o_bb_212 (165 : Int32)).bind fun (o_up_214, o_cw_215, o_bl_216, o_wr_217, o_fa_218, o_pos_219, o_bb_220) => some (o_up_214, o_cw_215, o_bl_216, o_wr_217, o_fa_218, o_pos_219, o_crc_211, o_bb_220))) else ((fX5_writeNumber o_up_192 o_cw_193 o_bl_194 o_wr_195 o_fa_196 o_pos_197 o_crc_198 nb o_bb_199 ev (8 : Int32)).bind fun (o_up_222, o_cw_223, o_bl_224, o_wr_225, o_fa_226, o_pos_227, o_crc_228, o_bb_229) => ((fX5_writeNumber o_up_222 o_cw_223 o_bl_224 o_wr_225 o_fa_226 o_pos_227 o_crc_228 nb o_bb_229 ((o_crc_228 ^^^ (-1 : Int32)).toInt64) (4 : Int32)).bind fun (o_up_232, o_cw_233, o_bl_234, o_wr_235, o_fa_236, o_pos_237, o_crc_238, o_bb_239) => ((fX5_writeByte o_up_232 o_cw_233 o_bl_234 o_wr_235 o_fa_236 o_pos_237 nb o_bb_239 (165 : Int32)).bind fun (o_up_241, o_cw_242, o_bl_243, o_wr_244, o_fa_245, o_pos_246, o_bb_247) => some (o_up_241, o_cw_242, o_bl_243, o_wr_244, o_fa_245, o_pos_246, o_crc_238, o_bb_247)))))))))))))))

set_option maxHeartbeats 4000000 in
set_option maxRecDepth 100000 in
theorem cX5_writeRecord_ok (l : Launch) (D : va_G) (y : Nat → ClassId) (ap : Nat) (aw : Nat) (ak : Nat) (ar : Nat) (ae : Nat) (up : Bool) (cw : Bool) (bl : Int32) (wr : Int32) (fa : Int32) (pos : Int32) (crc : Int32) (nb : Nat) (bb : Nat → Int32) (ek : Int32) (es : Int32) (ew : Int32) (ev : Int64) (res : Bool × Bool × Int32 × Int32 × Int32 × Int32 × Int32 × (Nat → Int32)) (hf : fX5_writeRecord up cw bl wr fa pos nb bb ek es ew ev = some res) : CT l D y yX5_writeRecord wsX5_writeRecord ({ frames := 3, cells := 0, slots := 0, locals := 68 } : Room) [.ref ap, .ref ae] [(ap, .inr (4, [.ref aw, .ref ak, .int pos, .int crc])), (aw, .inr (5, [.int (zb up), .int (zb cw), .int bl, .int wr, .int fa])), (ak, .inr (0, [.ref ar])), (ar, .inl (y 0, nb, .inl bb)), (ae, .inr (1, [.int ek, .int es, .int ew, .long ev]))] (none) [(ap, .inr (4, [.ref aw, .ref ak, .int res.2.2.2.2.2.1, .int res.2.2.2.2.2.2.1])), (aw, .inr (5, [.int (zb res.1), .int (zb res.2.1), .int res.2.2.1, .int res.2.2.2.1, .int res.2.2.2.2.1])), (ak, .inr (0, [.ref ar])), (ar, .inl (y 0, nb, .inl res.2.2.2.2.2.2.2)), (ae, .inr (1, [.int ek, .int es, .int ew, .long ev]))] := by
  intro sz
  refine Met.ofW (cc := cX5_writeRecord) (maxL := 2) (ret := none) (by decide) rfl ?_
  intro p e s m args below meth c s₁ B hml hv
  obtain ⟨rfl, hsz, hP, hK, hD0, hst, hno⟩ := hv
  have hx := B.exec
  have hb := B.bytes
  have hr := B.returns
  have hts := atoms_spec (ws := wsX5_writeRecord) B.pre
  have hown : s.vm.findClass RX5 = some m.cls := findClass_of_methodNamed B.named
  have hlocks := B.notSynchronized
  subst hsz
  have hD := hD0.self (sz := s.heap.size)
  generalize hAe : va_A [(ap, .inr (4, [.ref aw, .ref ak, .int pos, .int crc])), (aw, .inr (5, [.int (zb up), .int (zb cw), .int bl, .int wr, .int fa])), (ak, .inr (0, [.ref ar])), (ar, .inl (y 0, nb, .inl bb)), (ae, .inr (1, [.int ek, .int es, .int ew, .long ev]))] s.heap.size = A at hD hst ⊢
  have hA : ∀ q : Nat, s.heap.size ≤ q → A q := fun q h => by rw [← hAe]; exact Or.inr h
  have hS : va_S A s.heap s.heap [] := va_S.rf
  have E : Ev D y A s := ⟨hK, hst, hno, hA⟩
  have hfix : CallFix p m c cX5_writeRecord 2 s _ wsX5_writeRecord RX5 := ⟨hx, hb, hml, hown, hts⟩
  have hP : va_P D vwCl [(ap, .inr (4, [.ref aw, .ref ak, .int pos, .int crc])), (aw, .inr (5, [.int (zb up), .int (zb cw), .int bl, .int wr, .int fa])), (ak, .inr (0, [.ref ar])), (ar, .inl (y 0, nb, .inl bb)), (ae, .inr (1, [.int ek, .int es, .int ew, .long ev]))] s.heap := hP
  have iX2 : ∀ w ∈ wsX20, w ∈ wsX5_writeRecord := by decide +kernel
  have iX5 : ∀ w ∈ wsX50, w ∈ wsX5_writeRecord := by decide +kernel
  have hl := lv_entry ([.ref ap, .ref ae]) (n := 2) (Nat.le_of_ble_eq_true rfl)
  rw [lg_entry_eq]
  generalize (lg_sl ([.ref ap, .ref ae]) ++ List.replicate (2 - (lg_sl ([.ref ap, .ref ae])).length) Slot.unset).toArray = ls at hl ⊢
  have hl : lv_has ls 2 [(0, .ref ap), (1, .ref ae)] := hl
  unfold fX5_writeRecord at hf
  refine lv_aload_n hx hb dX5_writeRecord_0 rfl (lv_at hl 0 rfl) ?_
  refine lv_iconst (v := (-1 : Int32)) hx hb dX5_writeRecord_1 (by decide) ?_
  refine va_put (D := D) (ci := 4) (v := .int (-1 : Int32)) (ty := .int) (C := RX5) (T := TX5) (N := 4) hx hb hts iX5 tyX5 tyX5_ok nmX5 hown hK hP hD hS 0 rfl rfl 3 (by decide) (hts (.fieldLink RX5 17 "SampleTracker$Pen" "crc" "I") (by decide +kernel)) (fun _ h9 => h9) rfl (by decide +kernel) rfl rfl (Nat.le_of_ble_eq_true rfl) dX5_writeRecord_2 (fun H locs hP hD hS => ?_)
  have hP : va_P D vwCl [(ap, .inr (4, [.ref aw, .ref ak, .int pos, .int (-1 : Int32)])), (aw, .inr (5, [.int (zb up), .int (zb cw), .int bl, .int wr, .int fa])), (ak, .inr (0, [.ref ar])), (ar, .inl (y 0, nb, .inl bb)), (ae, .inr (1, [.int ek, .int es, .int ew, .long ev]))] H := hP
  have hD : va_D A [(ap, .inr (4, [.ref aw, .ref ak, .int pos, .int (-1 : Int32)])), (aw, .inr (5, [.int (zb up), .int (zb cw), .int bl, .int wr, .int fa])), (ak, .inr (0, [.ref ar])), (ar, .inl (y 0, nb, .inl bb)), (ae, .inr (1, [.int ek, .int es, .int ew, .long ev]))] := hD
  refine lv_aload_n hx hb dX5_writeRecord_5 rfl (lv_at hl 0 rfl) ?_
  refine lv_aload_n hx hb dX5_writeRecord_6 rfl (lv_at hl 1 rfl) ?_
  obtain ⟨r_1, hc_2, hf⟩ := obd hf
  refine ct_V (As := []) (rest := [.ref ap]) (wr := [(ap, .inr (4, [.ref aw, .ref ak, .int pos, .int (-1 : Int32)])), (aw, .inr (5, [.int (zb up), .int (zb cw), .int bl, .int wr, .int fa])), (ak, .inr (0, [.ref ar])), (ar, .inl (y 0, nb, .inl bb))]) (wn := [(ap, .inr (4, [.ref aw, .ref ak, .int pos, .int (-1 : Int32)])), (aw, .inr (5, [.int (zb up), .int (zb cw), .int bl, .int wr, .int fa])), (ak, .inr (0, [.ref ar])), (ar, .inl (y 0, nb, .inl bb)), (ae, .inr (1, [.int ek, .int es, .int ew, .long ev]))]) hfix (cX2_length_ok l D y ae ek es ew ev _ hc_2) (cwV 0 hts gX5_writeRecord_X2_length rfl rfl rfl (by decide +kernel) ⟨Nat.le_of_ble_eq_true rfl, Nat.le_of_ble_eq_true rfl⟩) E hP hD hS [4] [0, 1, 2, 3] [0, 1, 2, 3, 4] rfl rfl rfl rfl (by decide) rfl rfl 0 1 rfl rfl rfl hl.1 rfl (Nat.le_of_ble_eq_true rfl) dX5_writeRecord_7 ⟨Nat.zero_le _, Nat.zero_le _⟩ (fun H locs hP hD hS => ?_)
  refine W.eq (g2 := F0 m 10 ls [.int r_1, .ref ap]) rfl ?_
  refine lv_i2l (v := (r_1.toInt64)) hx hb dX5_writeRecord_10 rfl ?_
  refine lv_iconst (v := (2 : Int32)) hx hb dX5_writeRecord_11 (by decide) ?_
  obtain ⟨⟨o_up_3, o_cw_4, o_bl_5, o_wr_6, o_fa_7, o_pos_8, o_crc_9, o_bb_10⟩, hc_11, hf⟩ := obd hf
  refine ct_V (As := [.long (r_1.toInt64), .int (2 : Int32)]) (rest := []) (wr := [(ae, .inr (1, [.int ek, .int es, .int ew, .long ev]))]) (wn := [(ap, .inr (4, [.ref aw, .ref ak, .int o_pos_8, .int o_crc_9])), (aw, .inr (5, [.int (zb o_up_3), .int (zb o_cw_4), .int o_bl_5, .int o_wr_6, .int o_fa_7])), (ak, .inr (0, [.ref ar])), (ar, .inl (y 0, nb, .inl o_bb_10)), (ae, .inr (1, [.int ek, .int es, .int ew, .long ev]))]) hfix (cX5_writeNumber_ok l D y ap aw ak ar up cw bl wr fa pos (-1 : Int32) nb bb (r_1.toInt64) (2 : Int32) _ hc_11) (cwV 2 hts gX5_writeRecord_X5_writeNumber rfl rfl rfl (by decide +kernel) ⟨Nat.le_of_ble_eq_true rfl, Nat.le_of_ble_eq_true rfl⟩) E hP hD hS [0, 1, 2, 3] [4] [1, 2, 3, 4, 0] rfl rfl rfl rfl (by decide) rfl rfl 0 4 rfl rfl rfl hl.1 rfl (Nat.le_of_ble_eq_true rfl) dX5_writeRecord_12 ⟨Nat.zero_le _, Nat.zero_le _⟩ (fun H locs hP hD hS => ?_)
  refine W.eq (g2 := F0 m 15 ls []) rfl ?_
  refine lv_aload_n hx hb dX5_writeRecord_15 rfl (lv_at hl 0 rfl) ?_
  refine lv_aload_n hx hb dX5_writeRecord_16 rfl (lv_at hl 1 rfl) ?_
  refine va_getN (host := RX8) (D := D) (ci := 1) (v := .int ek) (C := RX2) (T := TX2) (N := 4) hx hb hts iX2 hown hK hP 4 rfl rfl 0 (by decide) (va_Nw.use rfl (E.2.2.1.1 (.fieldLinkNest RX5 46 RX2 "kind" "I" RX8) (by decide +kernel))) (fun _ h9 => h9) rfl dX5_writeRecord_17 ?_
  refine lv_i2l (v := (ek.toInt64)) hx hb dX5_writeRecord_20 rfl ?_
  refine lv_iconst (v := (1 : Int32)) hx hb dX5_writeRecord_21 (by decide) ?_
  obtain ⟨⟨o_up_12, o_cw_13, o_bl_14, o_wr_15, o_fa_16, o_pos_17, o_crc_18, o_bb_19⟩, hc_20, hf⟩ := obd hf
  refine ct_V (As := [.long (ek.toInt64), .int (1 : Int32)]) (rest := []) (wr := [(ae, .inr (1, [.int ek, .int es, .int ew, .long ev]))]) (wn := [(ap, .inr (4, [.ref aw, .ref ak, .int o_pos_17, .int o_crc_18])), (aw, .inr (5, [.int (zb o_up_12), .int (zb o_cw_13), .int o_bl_14, .int o_wr_15, .int o_fa_16])), (ak, .inr (0, [.ref ar])), (ar, .inl (y 0, nb, .inl o_bb_19)), (ae, .inr (1, [.int ek, .int es, .int ew, .long ev]))]) hfix (cX5_writeNumber_ok l D y ap aw ak ar o_up_3 o_cw_4 o_bl_5 o_wr_6 o_fa_7 o_pos_8 o_crc_9 nb o_bb_10 (ek.toInt64) (1 : Int32) _ hc_20) (cwV 2 hts gX5_writeRecord_X5_writeNumber rfl rfl rfl (by decide +kernel) ⟨Nat.le_of_ble_eq_true rfl, Nat.le_of_ble_eq_true rfl⟩) E hP hD hS [0, 1, 2, 3] [4] [1, 2, 3, 4, 0] rfl rfl rfl rfl (by decide) rfl rfl 0 4 rfl rfl rfl hl.1 rfl (Nat.le_of_ble_eq_true rfl) dX5_writeRecord_22 ⟨Nat.zero_le _, Nat.zero_le _⟩ (fun H locs hP hD hS => ?_)
  refine W.eq (g2 := F0 m 25 ls []) rfl ?_
  refine lv_aload_n hx hb dX5_writeRecord_25 rfl (lv_at hl 1 rfl) ?_
  obtain ⟨r_21, hc_22, hf⟩ := obd hf
  refine ct_V (As := []) (rest := []) (wr := [(ap, .inr (4, [.ref aw, .ref ak, .int o_pos_17, .int o_crc_18])), (aw, .inr (5, [.int (zb o_up_12), .int (zb o_cw_13), .int o_bl_14, .int o_wr_15, .int o_fa_16])), (ak, .inr (0, [.ref ar])), (ar, .inl (y 0, nb, .inl o_bb_19))]) (wn := [(ap, .inr (4, [.ref aw, .ref ak, .int o_pos_17, .int o_crc_18])), (aw, .inr (5, [.int (zb o_up_12), .int (zb o_cw_13), .int o_bl_14, .int o_wr_15, .int o_fa_16])), (ak, .inr (0, [.ref ar])), (ar, .inl (y 0, nb, .inl o_bb_19)), (ae, .inr (1, [.int ek, .int es, .int ew, .long ev]))]) hfix (cX2_hasSample_ok l D y ae ek es ew ev _ hc_22) (cwV 0 hts gX5_writeRecord_X2_hasSample rfl rfl rfl (by decide +kernel) ⟨Nat.le_of_ble_eq_true rfl, Nat.le_of_ble_eq_true rfl⟩) E hP hD hS [4] [0, 1, 2, 3] [0, 1, 2, 3, 4] rfl rfl rfl rfl (by decide) rfl rfl 0 1 rfl rfl rfl hl.1 rfl (Nat.le_of_ble_eq_true rfl) dX5_writeRecord_26 ⟨Nat.zero_le _, Nat.zero_le _⟩ (fun H locs hP hD hS => ?_)
  refine W.eq (g2 := F0 m 29 ls [.int (zb r_21)]) rfl ?_
  refine lv_if_eq (tgt := 42) hx hb dX5_writeRecord_29 (by decide) (fun c_23 => ?_) (fun c_23 => ?_)
  · have hf := ifp hf c_23
    refine lv_aload_n hx hb dX5_writeRecord_42 rfl (lv_at hl 1 rfl) ?_
    obtain ⟨r_24, hc_25, hf⟩ := obd hf
    refine ct_V (As := []) (rest := []) (wr := [(ap, .inr (4, [.ref aw, .ref ak, .int o_pos_17, .int o_crc_18])), (aw, .inr (5, [.int (zb o_up_12), .int (zb o_cw_13), .int o_bl_14, .int o_wr_15, .int o_fa_16])), (ak, .inr (0, [.ref ar])), (ar, .inl (y 0, nb, .inl o_bb_19))]) (wn := [(ap, .inr (4, [.ref aw, .ref ak, .int o_pos_17, .int o_crc_18])), (aw, .inr (5, [.int (zb o_up_12), .int (zb o_cw_13), .int o_bl_14, .int o_wr_15, .int o_fa_16])), (ak, .inr (0, [.ref ar])), (ar, .inl (y 0, nb, .inl o_bb_19)), (ae, .inr (1, [.int ek, .int es, .int ew, .long ev]))]) hfix (cX2_hasWell_ok l D y ae ek es ew ev _ hc_25) (cwV 0 hts gX5_writeRecord_X2_hasWell rfl rfl rfl (by decide +kernel) ⟨Nat.le_of_ble_eq_true rfl, Nat.le_of_ble_eq_true rfl⟩) E hP hD hS [4] [0, 1, 2, 3] [0, 1, 2, 3, 4] rfl rfl rfl rfl (by decide) rfl rfl 0 1 rfl rfl rfl hl.1 rfl (Nat.le_of_ble_eq_true rfl) dX5_writeRecord_43 ⟨Nat.zero_le _, Nat.zero_le _⟩ (fun H locs hP hD hS => ?_)
    refine W.eq (g2 := F0 m 46 ls [.int (zb r_24)]) rfl ?_
    refine lv_if_eq (tgt := 59) hx hb dX5_writeRecord_46 (by decide) (fun c_26 => ?_) (fun c_26 => ?_)
    · have hf := ifp hf c_26
      refine lv_aload_n hx hb dX5_writeRecord_59 rfl (lv_at hl 1 rfl) ?_
      obtain ⟨r_27, hc_28, hf⟩ := obd hf
      refine ct_V (As := []) (rest := []) (wr := [(ap, .inr (4, [.ref aw, .ref ak, .int o_pos_17, .int o_crc_18])), (aw, .inr (5, [.int (zb o_up_12), .int (zb o_cw_13), .int o_bl_14, .int o_wr_15, .int o_fa_16])), (ak, .inr (0, [.ref ar])), (ar, .inl (y 0, nb, .inl o_bb_19))]) (wn := [(ap, .inr (4, [.ref aw, .ref ak, .int o_pos_17, .int o_crc_18])), (aw, .inr (5, [.int (zb o_up_12), .int (zb o_cw_13), .int o_bl_14, .int o_wr_15, .int o_fa_16])), (ak, .inr (0, [.ref ar])), (ar, .inl (y 0, nb, .inl o_bb_19)), (ae, .inr (1, [.int ek, .int es, .int ew, .long ev]))]) hfix (cX2_hasVolume_ok l D y ae ek es ew ev _ hc_28) (cwV 0 hts gX5_writeRecord_X2_hasVolume rfl rfl rfl (by decide +kernel) ⟨Nat.le_of_ble_eq_true rfl, Nat.le_of_ble_eq_true rfl⟩) E hP hD hS [4] [0, 1, 2, 3] [0, 1, 2, 3, 4] rfl rfl rfl rfl (by decide) rfl rfl 0 1 rfl rfl rfl hl.1 rfl (Nat.le_of_ble_eq_true rfl) dX5_writeRecord_60 ⟨Nat.zero_le _, Nat.zero_le _⟩ (fun H locs hP hD hS => ?_)
      refine W.eq (g2 := F0 m 63 ls [.int (zb r_27)]) rfl ?_
      refine lv_if_eq (tgt := 76) hx hb dX5_writeRecord_63 (by decide) (fun c_29 => ?_) (fun c_29 => ?_)
      · have hf := ifp hf c_29
        refine lv_aload_n hx hb dX5_writeRecord_76 rfl (lv_at hl 0 rfl) ?_
        refine lv_aload_n hx hb dX5_writeRecord_77 rfl (lv_at hl 0 rfl) ?_
        refine va_get (D := D) (ci := 4) (v := .int o_crc_18) (C := RX5) (T := TX5) (N := 4) hx hb hts iX5 hown hK hP 0 rfl rfl 3 (by decide) (hts (.fieldLink RX5 17 "SampleTracker$Pen" "crc" "I") (by decide +kernel)) (fun _ h9 => h9) rfl dX5_writeRecord_78 ?_
        refine ct_S (As := [.int o_crc_18]) (rest := [.ref ap]) (wr := [(ap, .inr (4, [.ref aw, .ref ak, .int o_pos_17, .int o_crc_18])), (aw, .inr (5, [.int (zb o_up_12), .int (zb o_cw_13), .int o_bl_14, .int o_wr_15, .int o_fa_16])), (ak, .inr (0, [.ref ar])), (ar, .inl (y 0, nb, .inl o_bb_19)), (ae, .inr (1, [.int ek, .int es, .int ew, .long ev]))]) (wn := [(ap, .inr (4, [.ref aw, .ref ak, .int o_pos_17, .int o_crc_18])), (aw, .inr (5, [.int (zb o_up_12), .int (zb o_cw_13), .int o_bl_14, .int o_wr_15, .int o_fa_16])), (ak, .inr (0, [.ref ar])), (ar, .inl (y 0, nb, .inl o_bb_19)), (ae, .inr (1, [.int ek, .int es, .int ew, .long ev]))]) hfix (cX1_end_ok l D y o_crc_18) (va_cwS 1 hts gX5_writeRecord_X1_end rfl rfl rfl (by decide +kernel) ⟨Nat.le_of_ble_eq_true rfl, Nat.le_of_ble_eq_true rfl⟩) E hP hD hS [] [0, 1, 2, 3, 4] [0, 1, 2, 3, 4] rfl rfl rfl rfl (by decide) rfl rfl rfl hl.1 rfl (Nat.le_of_ble_eq_true rfl) dX5_writeRecord_81 ⟨Nat.zero_le _, Nat.zero_le _⟩ (fun H locs hP hD hS => ?_)
        refine W.eq (g2 := F0 m 84 ls [.int (o_crc_18 ^^^ (-1 : Int32)), .ref ap]) rfl ?_
        refine lv_i2l (v := ((o_crc_18 ^^^ (-1 : Int32)).toInt64)) hx hb dX5_writeRecord_84 rfl ?_
        refine lv_iconst (v := (4 : Int32)) hx hb dX5_writeRecord_85 (by decide) ?_
        obtain ⟨⟨o_up_31, o_cw_32, o_bl_33, o_wr_34, o_fa_35, o_pos_36, o_crc_37, o_bb_38⟩, hc_39, hf⟩ := obd hf
        refine ct_V (As := [.long ((o_crc_18 ^^^ (-1 : Int32)).toInt64), .int (4 : Int32)]) (rest := []) (wr := [(ae, .inr (1, [.int ek, .int es, .int ew, .long ev]))]) (wn := [(ap, .inr (4, [.ref aw, .ref ak, .int o_pos_36, .int o_crc_37])), (aw, .inr (5, [.int (zb o_up_31), .int (zb o_cw_32), .int o_bl_33, .int o_wr_34, .int o_fa_35])), (ak, .inr (0, [.ref ar])), (ar, .inl (y 0, nb, .inl o_bb_38)), (ae, .inr (1, [.int ek, .int es, .int ew, .long ev]))]) hfix (cX5_writeNumber_ok l D y ap aw ak ar o_up_12 o_cw_13 o_bl_14 o_wr_15 o_fa_16 o_pos_17 o_crc_18 nb o_bb_19 ((o_crc_18 ^^^ (-1 : Int32)).toInt64) (4 : Int32) _ hc_39) (cwV 2 hts gX5_writeRecord_X5_writeNumber rfl rfl rfl (by decide +kernel) ⟨Nat.le_of_ble_eq_true rfl, Nat.le_of_ble_eq_true rfl⟩) E hP hD hS [0, 1, 2, 3] [4] [1, 2, 3, 4, 0] rfl rfl rfl rfl (by decide) rfl rfl 0 4 rfl rfl rfl hl.1 rfl (Nat.le_of_ble_eq_true rfl) dX5_writeRecord_86 ⟨Nat.zero_le _, Nat.zero_le _⟩ (fun H locs hP hD hS => ?_)
        refine W.eq (g2 := F0 m 89 ls []) rfl ?_
        refine lv_aload_n hx hb dX5_writeRecord_89 rfl (lv_at hl 0 rfl) ?_
        refine lv_sipush (v := (165 : Int32)) hx hb dX5_writeRecord_90 (by decide) ?_
        obtain ⟨⟨o_up_40, o_cw_41, o_bl_42, o_wr_43, o_fa_44, o_pos_45, o_bb_46⟩, hc_47, hf⟩ := obd hf
        refine ct_V (As := [.int (165 : Int32)]) (rest := []) (wr := [(ae, .inr (1, [.int ek, .int es, .int ew, .long ev]))]) (wn := [(ap, .inr (4, [.ref aw, .ref ak, .int o_pos_45, .int o_crc_37])), (aw, .inr (5, [.int (zb o_up_40), .int (zb o_cw_41), .int o_bl_42, .int o_wr_43, .int o_fa_44])), (ak, .inr (0, [.ref ar])), (ar, .inl (y 0, nb, .inl o_bb_46)), (ae, .inr (1, [.int ek, .int es, .int ew, .long ev]))]) hfix (cX5_writeByte_ok l D y ap aw ak ar o_up_31 o_cw_32 o_bl_33 o_wr_34 o_fa_35 o_pos_36 o_crc_37 nb o_bb_38 (165 : Int32) _ hc_47) (cwV 1 hts gX5_writeRecord_X5_writeByte rfl rfl rfl (by decide +kernel) ⟨Nat.le_of_ble_eq_true rfl, Nat.le_of_ble_eq_true rfl⟩) E hP hD hS [0, 1, 2, 3] [4] [1, 2, 3, 4, 0] rfl rfl rfl rfl (by decide) rfl rfl 0 4 rfl rfl rfl hl.1 rfl (Nat.le_of_ble_eq_true rfl) dX5_writeRecord_93 ⟨Nat.zero_le _, Nat.zero_le _⟩ (fun H locs hP hD hS => ?_)
        refine W.eq (g2 := F0 m 96 ls []) rfl ?_
        obtain rfl := Option.some.inj hf
        exact W.vret hx hb hr (fun t ht hW => ⟨⟨(), rfl, by rw [ht]; exact hP, hD⟩, hS.F ht⟩) hS.2.2 dX5_writeRecord_96
      · have hf := ifn hf c_29
        refine lv_aload_n hx hb dX5_writeRecord_66 rfl (lv_at hl 0 rfl) ?_
        refine lv_aload_n hx hb dX5_writeRecord_67 rfl (lv_at hl 1 rfl) ?_
        refine va_getN (host := RX8) (D := D) (ci := 1) (v := .long ev) (C := RX2) (T := TX2) (N := 4) hx hb hts iX2 hown hK hP 4 rfl rfl 3 (by decide) (va_Nw.use rfl (E.2.2.1.1 (.fieldLinkNest RX5 65 RX2 "volume" "J" RX8) (by decide +kernel))) (fun _ h9 => h9) rfl dX5_writeRecord_68 ?_
        refine lv_bipush (v := (8 : Int32)) hx hb dX5_writeRecord_71 (by decide) ?_
        obtain ⟨⟨o_up_48, o_cw_49, o_bl_50, o_wr_51, o_fa_52, o_pos_53, o_crc_54, o_bb_55⟩, hc_56, hf⟩ := obd hf
        refine ct_V (As := [.long ev, .int (8 : Int32)]) (rest := []) (wr := [(ae, .inr (1, [.int ek, .int es, .int ew, .long ev]))]) (wn := [(ap, .inr (4, [.ref aw, .ref ak, .int o_pos_53, .int o_crc_54])), (aw, .inr (5, [.int (zb o_up_48), .int (zb o_cw_49), .int o_bl_50, .int o_wr_51, .int o_fa_52])), (ak, .inr (0, [.ref ar])), (ar, .inl (y 0, nb, .inl o_bb_55)), (ae, .inr (1, [.int ek, .int es, .int ew, .long ev]))]) hfix (cX5_writeNumber_ok l D y ap aw ak ar o_up_12 o_cw_13 o_bl_14 o_wr_15 o_fa_16 o_pos_17 o_crc_18 nb o_bb_19 ev (8 : Int32) _ hc_56) (cwV 2 hts gX5_writeRecord_X5_writeNumber rfl rfl rfl (by decide +kernel) ⟨Nat.le_of_ble_eq_true rfl, Nat.le_of_ble_eq_true rfl⟩) E hP hD hS [0, 1, 2, 3] [4] [1, 2, 3, 4, 0] rfl rfl rfl rfl (by decide) rfl rfl 0 4 rfl rfl rfl hl.1 rfl (Nat.le_of_ble_eq_true rfl) dX5_writeRecord_73 ⟨Nat.zero_le _, Nat.zero_le _⟩ (fun H locs hP hD hS => ?_)
        refine W.eq (g2 := F0 m 76 ls []) rfl ?_
        refine lv_aload_n hx hb dX5_writeRecord_76 rfl (lv_at hl 0 rfl) ?_
        refine lv_aload_n hx hb dX5_writeRecord_77 rfl (lv_at hl 0 rfl) ?_
        refine va_get (D := D) (ci := 4) (v := .int o_crc_54) (C := RX5) (T := TX5) (N := 4) hx hb hts iX5 hown hK hP 0 rfl rfl 3 (by decide) (hts (.fieldLink RX5 17 "SampleTracker$Pen" "crc" "I") (by decide +kernel)) (fun _ h9 => h9) rfl dX5_writeRecord_78 ?_
        refine ct_S (As := [.int o_crc_54]) (rest := [.ref ap]) (wr := [(ap, .inr (4, [.ref aw, .ref ak, .int o_pos_53, .int o_crc_54])), (aw, .inr (5, [.int (zb o_up_48), .int (zb o_cw_49), .int o_bl_50, .int o_wr_51, .int o_fa_52])), (ak, .inr (0, [.ref ar])), (ar, .inl (y 0, nb, .inl o_bb_55)), (ae, .inr (1, [.int ek, .int es, .int ew, .long ev]))]) (wn := [(ap, .inr (4, [.ref aw, .ref ak, .int o_pos_53, .int o_crc_54])), (aw, .inr (5, [.int (zb o_up_48), .int (zb o_cw_49), .int o_bl_50, .int o_wr_51, .int o_fa_52])), (ak, .inr (0, [.ref ar])), (ar, .inl (y 0, nb, .inl o_bb_55)), (ae, .inr (1, [.int ek, .int es, .int ew, .long ev]))]) hfix (cX1_end_ok l D y o_crc_54) (va_cwS 1 hts gX5_writeRecord_X1_end rfl rfl rfl (by decide +kernel) ⟨Nat.le_of_ble_eq_true rfl, Nat.le_of_ble_eq_true rfl⟩) E hP hD hS [] [0, 1, 2, 3, 4] [0, 1, 2, 3, 4] rfl rfl rfl rfl (by decide) rfl rfl rfl hl.1 rfl (Nat.le_of_ble_eq_true rfl) dX5_writeRecord_81 ⟨Nat.zero_le _, Nat.zero_le _⟩ (fun H locs hP hD hS => ?_)
        refine W.eq (g2 := F0 m 84 ls [.int (o_crc_54 ^^^ (-1 : Int32)), .ref ap]) rfl ?_
        refine lv_i2l (v := ((o_crc_54 ^^^ (-1 : Int32)).toInt64)) hx hb dX5_writeRecord_84 rfl ?_
        refine lv_iconst (v := (4 : Int32)) hx hb dX5_writeRecord_85 (by decide) ?_
        obtain ⟨⟨o_up_58, o_cw_59, o_bl_60, o_wr_61, o_fa_62, o_pos_63, o_crc_64, o_bb_65⟩, hc_66, hf⟩ := obd hf
        refine ct_V (As := [.long ((o_crc_54 ^^^ (-1 : Int32)).toInt64), .int (4 : Int32)]) (rest := []) (wr := [(ae, .inr (1, [.int ek, .int es, .int ew, .long ev]))]) (wn := [(ap, .inr (4, [.ref aw, .ref ak, .int o_pos_63, .int o_crc_64])), (aw, .inr (5, [.int (zb o_up_58), .int (zb o_cw_59), .int o_bl_60, .int o_wr_61, .int o_fa_62])), (ak, .inr (0, [.ref ar])), (ar, .inl (y 0, nb, .inl o_bb_65)), (ae, .inr (1, [.int ek, .int es, .int ew, .long ev]))]) hfix (cX5_writeNumber_ok l D y ap aw ak ar o_up_48 o_cw_49 o_bl_50 o_wr_51 o_fa_52 o_pos_53 o_crc_54 nb o_bb_55 ((o_crc_54 ^^^ (-1 : Int32)).toInt64) (4 : Int32) _ hc_66) (cwV 2 hts gX5_writeRecord_X5_writeNumber rfl rfl rfl (by decide +kernel) ⟨Nat.le_of_ble_eq_true rfl, Nat.le_of_ble_eq_true rfl⟩) E hP hD hS [0, 1, 2, 3] [4] [1, 2, 3, 4, 0] rfl rfl rfl rfl (by decide) rfl rfl 0 4 rfl rfl rfl hl.1 rfl (Nat.le_of_ble_eq_true rfl) dX5_writeRecord_86 ⟨Nat.zero_le _, Nat.zero_le _⟩ (fun H locs hP hD hS => ?_)
        refine W.eq (g2 := F0 m 89 ls []) rfl ?_
        refine lv_aload_n hx hb dX5_writeRecord_89 rfl (lv_at hl 0 rfl) ?_
        refine lv_sipush (v := (165 : Int32)) hx hb dX5_writeRecord_90 (by decide) ?_
        obtain ⟨⟨o_up_67, o_cw_68, o_bl_69, o_wr_70, o_fa_71, o_pos_72, o_bb_73⟩, hc_74, hf⟩ := obd hf
        refine ct_V (As := [.int (165 : Int32)]) (rest := []) (wr := [(ae, .inr (1, [.int ek, .int es, .int ew, .long ev]))]) (wn := [(ap, .inr (4, [.ref aw, .ref ak, .int o_pos_72, .int o_crc_64])), (aw, .inr (5, [.int (zb o_up_67), .int (zb o_cw_68), .int o_bl_69, .int o_wr_70, .int o_fa_71])), (ak, .inr (0, [.ref ar])), (ar, .inl (y 0, nb, .inl o_bb_73)), (ae, .inr (1, [.int ek, .int es, .int ew, .long ev]))]) hfix (cX5_writeByte_ok l D y ap aw ak ar o_up_58 o_cw_59 o_bl_60 o_wr_61 o_fa_62 o_pos_63 o_crc_64 nb o_bb_65 (165 : Int32) _ hc_74) (cwV 1 hts gX5_writeRecord_X5_writeByte rfl rfl rfl (by decide +kernel) ⟨Nat.le_of_ble_eq_true rfl, Nat.le_of_ble_eq_true rfl⟩) E hP hD hS [0, 1, 2, 3] [4] [1, 2, 3, 4, 0] rfl rfl rfl rfl (by decide) rfl rfl 0 4 rfl rfl rfl hl.1 rfl (Nat.le_of_ble_eq_true rfl) dX5_writeRecord_93 ⟨Nat.zero_le _, Nat.zero_le _⟩ (fun H locs hP hD hS => ?_)
        refine W.eq (g2 := F0 m 96 ls []) rfl ?_
        obtain rfl := Option.some.inj hf
        exact W.vret hx hb hr (fun t ht hW => ⟨⟨(), rfl, by rw [ht]; exact hP, hD⟩, hS.F ht⟩) hS.2.2 dX5_writeRecord_96
    · have hf := ifn hf c_26
      refine lv_aload_n hx hb dX5_writeRecord_49 rfl (lv_at hl 0 rfl) ?_
      refine lv_aload_n hx hb dX5_writeRecord_50 rfl (lv_at hl 1 rfl) ?_
      refine va_getN (host := RX8) (D := D) (ci := 1) (v := .int ew) (C := RX2) (T := TX2) (N := 4) hx hb hts iX2 hown hK hP 4 rfl rfl 2 (by decide) (va_Nw.use rfl (E.2.2.1.1 (.fieldLinkNest RX5 59 RX2 "well" "I" RX8) (by decide +kernel))) (fun _ h9 => h9) rfl dX5_writeRecord_51 ?_
      refine lv_i2l (v := (ew.toInt64)) hx hb dX5_writeRecord_54 rfl ?_
      refine lv_iconst (v := (1 : Int32)) hx hb dX5_writeRecord_55 (by decide) ?_
      obtain ⟨⟨o_up_75, o_cw_76, o_bl_77, o_wr_78, o_fa_79, o_pos_80, o_crc_81, o_bb_82⟩, hc_83, hf⟩ := obd hf
      refine ct_V (As := [.long (ew.toInt64), .int (1 : Int32)]) (rest := []) (wr := [(ae, .inr (1, [.int ek, .int es, .int ew, .long ev]))]) (wn := [(ap, .inr (4, [.ref aw, .ref ak, .int o_pos_80, .int o_crc_81])), (aw, .inr (5, [.int (zb o_up_75), .int (zb o_cw_76), .int o_bl_77, .int o_wr_78, .int o_fa_79])), (ak, .inr (0, [.ref ar])), (ar, .inl (y 0, nb, .inl o_bb_82)), (ae, .inr (1, [.int ek, .int es, .int ew, .long ev]))]) hfix (cX5_writeNumber_ok l D y ap aw ak ar o_up_12 o_cw_13 o_bl_14 o_wr_15 o_fa_16 o_pos_17 o_crc_18 nb o_bb_19 (ew.toInt64) (1 : Int32) _ hc_83) (cwV 2 hts gX5_writeRecord_X5_writeNumber rfl rfl rfl (by decide +kernel) ⟨Nat.le_of_ble_eq_true rfl, Nat.le_of_ble_eq_true rfl⟩) E hP hD hS [0, 1, 2, 3] [4] [1, 2, 3, 4, 0] rfl rfl rfl rfl (by decide) rfl rfl 0 4 rfl rfl rfl hl.1 rfl (Nat.le_of_ble_eq_true rfl) dX5_writeRecord_56 ⟨Nat.zero_le _, Nat.zero_le _⟩ (fun H locs hP hD hS => ?_)
      refine W.eq (g2 := F0 m 59 ls []) rfl ?_
      refine lv_aload_n hx hb dX5_writeRecord_59 rfl (lv_at hl 1 rfl) ?_
      obtain ⟨r_84, hc_85, hf⟩ := obd hf
      refine ct_V (As := []) (rest := []) (wr := [(ap, .inr (4, [.ref aw, .ref ak, .int o_pos_80, .int o_crc_81])), (aw, .inr (5, [.int (zb o_up_75), .int (zb o_cw_76), .int o_bl_77, .int o_wr_78, .int o_fa_79])), (ak, .inr (0, [.ref ar])), (ar, .inl (y 0, nb, .inl o_bb_82))]) (wn := [(ap, .inr (4, [.ref aw, .ref ak, .int o_pos_80, .int o_crc_81])), (aw, .inr (5, [.int (zb o_up_75), .int (zb o_cw_76), .int o_bl_77, .int o_wr_78, .int o_fa_79])), (ak, .inr (0, [.ref ar])), (ar, .inl (y 0, nb, .inl o_bb_82)), (ae, .inr (1, [.int ek, .int es, .int ew, .long ev]))]) hfix (cX2_hasVolume_ok l D y ae ek es ew ev _ hc_85) (cwV 0 hts gX5_writeRecord_X2_hasVolume rfl rfl rfl (by decide +kernel) ⟨Nat.le_of_ble_eq_true rfl, Nat.le_of_ble_eq_true rfl⟩) E hP hD hS [4] [0, 1, 2, 3] [0, 1, 2, 3, 4] rfl rfl rfl rfl (by decide) rfl rfl 0 1 rfl rfl rfl hl.1 rfl (Nat.le_of_ble_eq_true rfl) dX5_writeRecord_60 ⟨Nat.zero_le _, Nat.zero_le _⟩ (fun H locs hP hD hS => ?_)
      refine W.eq (g2 := F0 m 63 ls [.int (zb r_84)]) rfl ?_
      refine lv_if_eq (tgt := 76) hx hb dX5_writeRecord_63 (by decide) (fun c_86 => ?_) (fun c_86 => ?_)
      · have hf := ifp hf c_86
        refine lv_aload_n hx hb dX5_writeRecord_76 rfl (lv_at hl 0 rfl) ?_
        refine lv_aload_n hx hb dX5_writeRecord_77 rfl (lv_at hl 0 rfl) ?_
        refine va_get (D := D) (ci := 4) (v := .int o_crc_81) (C := RX5) (T := TX5) (N := 4) hx hb hts iX5 hown hK hP 0 rfl rfl 3 (by decide) (hts (.fieldLink RX5 17 "SampleTracker$Pen" "crc" "I") (by decide +kernel)) (fun _ h9 => h9) rfl dX5_writeRecord_78 ?_
        refine ct_S (As := [.int o_crc_81]) (rest := [.ref ap]) (wr := [(ap, .inr (4, [.ref aw, .ref ak, .int o_pos_80, .int o_crc_81])), (aw, .inr (5, [.int (zb o_up_75), .int (zb o_cw_76), .int o_bl_77, .int o_wr_78, .int o_fa_79])), (ak, .inr (0, [.ref ar])), (ar, .inl (y 0, nb, .inl o_bb_82)), (ae, .inr (1, [.int ek, .int es, .int ew, .long ev]))]) (wn := [(ap, .inr (4, [.ref aw, .ref ak, .int o_pos_80, .int o_crc_81])), (aw, .inr (5, [.int (zb o_up_75), .int (zb o_cw_76), .int o_bl_77, .int o_wr_78, .int o_fa_79])), (ak, .inr (0, [.ref ar])), (ar, .inl (y 0, nb, .inl o_bb_82)), (ae, .inr (1, [.int ek, .int es, .int ew, .long ev]))]) hfix (cX1_end_ok l D y o_crc_81) (va_cwS 1 hts gX5_writeRecord_X1_end rfl rfl rfl (by decide +kernel) ⟨Nat.le_of_ble_eq_true rfl, Nat.le_of_ble_eq_true rfl⟩) E hP hD hS [] [0, 1, 2, 3, 4] [0, 1, 2, 3, 4] rfl rfl rfl rfl (by decide) rfl rfl rfl hl.1 rfl (Nat.le_of_ble_eq_true rfl) dX5_writeRecord_81 ⟨Nat.zero_le _, Nat.zero_le _⟩ (fun H locs hP hD hS => ?_)
        refine W.eq (g2 := F0 m 84 ls [.int (o_crc_81 ^^^ (-1 : Int32)), .ref ap]) rfl ?_
        refine lv_i2l (v := ((o_crc_81 ^^^ (-1 : Int32)).toInt64)) hx hb dX5_writeRecord_84 rfl ?_
        refine lv_iconst (v := (4 : Int32)) hx hb dX5_writeRecord_85 (by decide) ?_
        obtain ⟨⟨o_up_88, o_cw_89, o_bl_90, o_wr_91, o_fa_92, o_pos_93, o_crc_94, o_bb_95⟩, hc_96, hf⟩ := obd hf
        refine ct_V (As := [.long ((o_crc_81 ^^^ (-1 : Int32)).toInt64), .int (4 : Int32)]) (rest := []) (wr := [(ae, .inr (1, [.int ek, .int es, .int ew, .long ev]))]) (wn := [(ap, .inr (4, [.ref aw, .ref ak, .int o_pos_93, .int o_crc_94])), (aw, .inr (5, [.int (zb o_up_88), .int (zb o_cw_89), .int o_bl_90, .int o_wr_91, .int o_fa_92])), (ak, .inr (0, [.ref ar])), (ar, .inl (y 0, nb, .inl o_bb_95)), (ae, .inr (1, [.int ek, .int es, .int ew, .long ev]))]) hfix (cX5_writeNumber_ok l D y ap aw ak ar o_up_75 o_cw_76 o_bl_77 o_wr_78 o_fa_79 o_pos_80 o_crc_81 nb o_bb_82 ((o_crc_81 ^^^ (-1 : Int32)).toInt64) (4 : Int32) _ hc_96) (cwV 2 hts gX5_writeRecord_X5_writeNumber rfl rfl rfl (by decide +kernel) ⟨Nat.le_of_ble_eq_true rfl, Nat.le_of_ble_eq_true rfl⟩) E hP hD hS [0, 1, 2, 3] [4] [1, 2, 3, 4, 0] rfl rfl rfl rfl (by decide) rfl rfl 0 4 rfl rfl rfl hl.1 rfl (Nat.le_of_ble_eq_true rfl) dX5_writeRecord_86 ⟨Nat.zero_le _, Nat.zero_le _⟩ (fun H locs hP hD hS => ?_)
        refine W.eq (g2 := F0 m 89 ls []) rfl ?_
        refine lv_aload_n hx hb dX5_writeRecord_89 rfl (lv_at hl 0 rfl) ?_
        refine lv_sipush (v := (165 : Int32)) hx hb dX5_writeRecord_90 (by decide) ?_
        obtain ⟨⟨o_up_97, o_cw_98, o_bl_99, o_wr_100, o_fa_101, o_pos_102, o_bb_103⟩, hc_104, hf⟩ := obd hf
        refine ct_V (As := [.int (165 : Int32)]) (rest := []) (wr := [(ae, .inr (1, [.int ek, .int es, .int ew, .long ev]))]) (wn := [(ap, .inr (4, [.ref aw, .ref ak, .int o_pos_102, .int o_crc_94])), (aw, .inr (5, [.int (zb o_up_97), .int (zb o_cw_98), .int o_bl_99, .int o_wr_100, .int o_fa_101])), (ak, .inr (0, [.ref ar])), (ar, .inl (y 0, nb, .inl o_bb_103)), (ae, .inr (1, [.int ek, .int es, .int ew, .long ev]))]) hfix (cX5_writeByte_ok l D y ap aw ak ar o_up_88 o_cw_89 o_bl_90 o_wr_91 o_fa_92 o_pos_93 o_crc_94 nb o_bb_95 (165 : Int32) _ hc_104) (cwV 1 hts gX5_writeRecord_X5_writeByte rfl rfl rfl (by decide +kernel) ⟨Nat.le_of_ble_eq_true rfl, Nat.le_of_ble_eq_true rfl⟩) E hP hD hS [0, 1, 2, 3] [4] [1, 2, 3, 4, 0] rfl rfl rfl rfl (by decide) rfl rfl 0 4 rfl rfl rfl hl.1 rfl (Nat.le_of_ble_eq_true rfl) dX5_writeRecord_93 ⟨Nat.zero_le _, Nat.zero_le _⟩ (fun H locs hP hD hS => ?_)
        refine W.eq (g2 := F0 m 96 ls []) rfl ?_
        obtain rfl := Option.some.inj hf
        exact W.vret hx hb hr (fun t ht hW => ⟨⟨(), rfl, by rw [ht]; exact hP, hD⟩, hS.F ht⟩) hS.2.2 dX5_writeRecord_96
      · have hf := ifn hf c_86
        refine lv_aload_n hx hb dX5_writeRecord_66 rfl (lv_at hl 0 rfl) ?_
        refine lv_aload_n hx hb dX5_writeRecord_67 rfl (lv_at hl 1 rfl) ?_
        refine va_getN (host := RX8) (D := D) (ci := 1) (v := .long ev) (C := RX2) (T := TX2) (N := 4) hx hb hts iX2 hown hK hP 4 rfl rfl 3 (by decide) (va_Nw.use rfl (E.2.2.1.1 (.fieldLinkNest RX5 65 RX2 "volume" "J" RX8) (by decide +kernel))) (fun _ h9 => h9) rfl dX5_writeRecord_68 ?_
        refine lv_bipush (v := (8 : Int32)) hx hb dX5_writeRecord_71 (by decide) ?_
        obtain ⟨⟨o_up_105, o_cw_106, o_bl_107, o_wr_108, o_fa_109, o_pos_110, o_crc_111, o_bb_112⟩, hc_113, hf⟩ := obd hf
        refine ct_V (As := [.long ev, .int (8 : Int32)]) (rest := []) (wr := [(ae, .inr (1, [.int ek, .int es, .int ew, .long ev]))]) (wn := [(ap, .inr (4, [.ref aw, .ref ak, .int o_pos_110, .int o_crc_111])), (aw, .inr (5, [.int (zb o_up_105), .int (zb o_cw_106), .int o_bl_107, .int o_wr_108, .int o_fa_109])), (ak, .inr (0, [.ref ar])), (ar, .inl (y 0, nb, .inl o_bb_112)), (ae, .inr (1, [.int ek, .int es, .int ew, .long ev]))]) hfix (cX5_writeNumber_ok l D y ap aw ak ar o_up_75 o_cw_76 o_bl_77 o_wr_78 o_fa_79 o_pos_80 o_crc_81 nb o_bb_82 ev (8 : Int32) _ hc_113) (cwV 2 hts gX5_writeRecord_X5_writeNumber rfl rfl rfl (by decide +kernel) ⟨Nat.le_of_ble_eq_true rfl, Nat.le_of_ble_eq_true rfl⟩) E hP hD hS [0, 1, 2, 3] [4] [1, 2, 3, 4, 0] rfl rfl rfl rfl (by decide) rfl rfl 0 4 rfl rfl rfl hl.1 rfl (Nat.le_of_ble_eq_true rfl) dX5_writeRecord_73 ⟨Nat.zero_le _, Nat.zero_le _⟩ (fun H locs hP hD hS => ?_)
        refine W.eq (g2 := F0 m 76 ls []) rfl ?_
        refine lv_aload_n hx hb dX5_writeRecord_76 rfl (lv_at hl 0 rfl) ?_
        refine lv_aload_n hx hb dX5_writeRecord_77 rfl (lv_at hl 0 rfl) ?_
        refine va_get (D := D) (ci := 4) (v := .int o_crc_111) (C := RX5) (T := TX5) (N := 4) hx hb hts iX5 hown hK hP 0 rfl rfl 3 (by decide) (hts (.fieldLink RX5 17 "SampleTracker$Pen" "crc" "I") (by decide +kernel)) (fun _ h9 => h9) rfl dX5_writeRecord_78 ?_
        refine ct_S (As := [.int o_crc_111]) (rest := [.ref ap]) (wr := [(ap, .inr (4, [.ref aw, .ref ak, .int o_pos_110, .int o_crc_111])), (aw, .inr (5, [.int (zb o_up_105), .int (zb o_cw_106), .int o_bl_107, .int o_wr_108, .int o_fa_109])), (ak, .inr (0, [.ref ar])), (ar, .inl (y 0, nb, .inl o_bb_112)), (ae, .inr (1, [.int ek, .int es, .int ew, .long ev]))]) (wn := [(ap, .inr (4, [.ref aw, .ref ak, .int o_pos_110, .int o_crc_111])), (aw, .inr (5, [.int (zb o_up_105), .int (zb o_cw_106), .int o_bl_107, .int o_wr_108, .int o_fa_109])), (ak, .inr (0, [.ref ar])), (ar, .inl (y 0, nb, .inl o_bb_112)), (ae, .inr (1, [.int ek, .int es, .int ew, .long ev]))]) hfix (cX1_end_ok l D y o_crc_111) (va_cwS 1 hts gX5_writeRecord_X1_end rfl rfl rfl (by decide +kernel) ⟨Nat.le_of_ble_eq_true rfl, Nat.le_of_ble_eq_true rfl⟩) E hP hD hS [] [0, 1, 2, 3, 4] [0, 1, 2, 3, 4] rfl rfl rfl rfl (by decide) rfl rfl rfl hl.1 rfl (Nat.le_of_ble_eq_true rfl) dX5_writeRecord_81 ⟨Nat.zero_le _, Nat.zero_le _⟩ (fun H locs hP hD hS => ?_)
        refine W.eq (g2 := F0 m 84 ls [.int (o_crc_111 ^^^ (-1 : Int32)), .ref ap]) rfl ?_
        refine lv_i2l (v := ((o_crc_111 ^^^ (-1 : Int32)).toInt64)) hx hb dX5_writeRecord_84 rfl ?_
        refine lv_iconst (v := (4 : Int32)) hx hb dX5_writeRecord_85 (by decide) ?_
        obtain ⟨⟨o_up_115, o_cw_116, o_bl_117, o_wr_118, o_fa_119, o_pos_120, o_crc_121, o_bb_122⟩, hc_123, hf⟩ := obd hf
        refine ct_V (As := [.long ((o_crc_111 ^^^ (-1 : Int32)).toInt64), .int (4 : Int32)]) (rest := []) (wr := [(ae, .inr (1, [.int ek, .int es, .int ew, .long ev]))]) (wn := [(ap, .inr (4, [.ref aw, .ref ak, .int o_pos_120, .int o_crc_121])), (aw, .inr (5, [.int (zb o_up_115), .int (zb o_cw_116), .int o_bl_117, .int o_wr_118, .int o_fa_119])), (ak, .inr (0, [.ref ar])), (ar, .inl (y 0, nb, .inl o_bb_122)), (ae, .inr (1, [.int ek, .int es, .int ew, .long ev]))]) hfix (cX5_writeNumber_ok l D y ap aw ak ar o_up_105 o_cw_106 o_bl_107 o_wr_108 o_fa_109 o_pos_110 o_crc_111 nb o_bb_112 ((o_crc_111 ^^^ (-1 : Int32)).toInt64) (4 : Int32) _ hc_123) (cwV 2 hts gX5_writeRecord_X5_writeNumber rfl rfl rfl (by decide +kernel) ⟨Nat.le_of_ble_eq_true rfl, Nat.le_of_ble_eq_true rfl⟩) E hP hD hS [0, 1, 2, 3] [4] [1, 2, 3, 4, 0] rfl rfl rfl rfl (by decide) rfl rfl 0 4 rfl rfl rfl hl.1 rfl (Nat.le_of_ble_eq_true rfl) dX5_writeRecord_86 ⟨Nat.zero_le _, Nat.zero_le _⟩ (fun H locs hP hD hS => ?_)
        refine W.eq (g2 := F0 m 89 ls []) rfl ?_
        refine lv_aload_n hx hb dX5_writeRecord_89 rfl (lv_at hl 0 rfl) ?_
        refine lv_sipush (v := (165 : Int32)) hx hb dX5_writeRecord_90 (by decide) ?_
        obtain ⟨⟨o_up_124, o_cw_125, o_bl_126, o_wr_127, o_fa_128, o_pos_129, o_bb_130⟩, hc_131, hf⟩ := obd hf
        refine ct_V (As := [.int (165 : Int32)]) (rest := []) (wr := [(ae, .inr (1, [.int ek, .int es, .int ew, .long ev]))]) (wn := [(ap, .inr (4, [.ref aw, .ref ak, .int o_pos_129, .int o_crc_121])), (aw, .inr (5, [.int (zb o_up_124), .int (zb o_cw_125), .int o_bl_126, .int o_wr_127, .int o_fa_128])), (ak, .inr (0, [.ref ar])), (ar, .inl (y 0, nb, .inl o_bb_130)), (ae, .inr (1, [.int ek, .int es, .int ew, .long ev]))]) hfix (cX5_writeByte_ok l D y ap aw ak ar o_up_115 o_cw_116 o_bl_117 o_wr_118 o_fa_119 o_pos_120 o_crc_121 nb o_bb_122 (165 : Int32) _ hc_131) (cwV 1 hts gX5_writeRecord_X5_writeByte rfl rfl rfl (by decide +kernel) ⟨Nat.le_of_ble_eq_true rfl, Nat.le_of_ble_eq_true rfl⟩) E hP hD hS [0, 1, 2, 3] [4] [1, 2, 3, 4, 0] rfl rfl rfl rfl (by decide) rfl rfl 0 4 rfl rfl rfl hl.1 rfl (Nat.le_of_ble_eq_true rfl) dX5_writeRecord_93 ⟨Nat.zero_le _, Nat.zero_le _⟩ (fun H locs hP hD hS => ?_)
        refine W.eq (g2 := F0 m 96 ls []) rfl ?_
        obtain rfl := Option.some.inj hf
        exact W.vret hx hb hr (fun t ht hW => ⟨⟨(), rfl, by rw [ht]; exact hP, hD⟩, hS.F ht⟩) hS.2.2 dX5_writeRecord_96
  · have hf := ifn hf c_23
    refine lv_aload_n hx hb dX5_writeRecord_32 rfl (lv_at hl 0 rfl) ?_
    refine lv_aload_n hx hb dX5_writeRecord_33 rfl (lv_at hl 1 rfl) ?_
    refine va_getN (host := RX8) (D := D) (ci := 1) (v := .int es) (C := RX2) (T := TX2) (N := 4) hx hb hts iX2 hown hK hP 4 rfl rfl 1 (by decide) (va_Nw.use rfl (E.2.2.1.1 (.fieldLinkNest RX5 53 RX2 "sample" "I" RX8) (by decide +kernel))) (fun _ h9 => h9) rfl dX5_writeRecord_34 ?_
    refine lv_i2l (v := (es.toInt64)) hx hb dX5_writeRecord_37 rfl ?_
    refine lv_iconst (v := (2 : Int32)) hx hb dX5_writeRecord_38 (by decide) ?_
    obtain ⟨⟨o_up_132, o_cw_133, o_bl_134, o_wr_135, o_fa_136, o_pos_137, o_crc_138, o_bb_139⟩, hc_140, hf⟩ := obd hf
    refine ct_V (As := [.long (es.toInt64), .int (2 : Int32)]) (rest := []) (wr := [(ae, .inr (1, [.int ek, .int es, .int ew, .long ev]))]) (wn := [(ap, .inr (4, [.ref aw, .ref ak, .int o_pos_137, .int o_crc_138])), (aw, .inr (5, [.int (zb o_up_132), .int (zb o_cw_133), .int o_bl_134, .int o_wr_135, .int o_fa_136])), (ak, .inr (0, [.ref ar])), (ar, .inl (y 0, nb, .inl o_bb_139)), (ae, .inr (1, [.int ek, .int es, .int ew, .long ev]))]) hfix (cX5_writeNumber_ok l D y ap aw ak ar o_up_12 o_cw_13 o_bl_14 o_wr_15 o_fa_16 o_pos_17 o_crc_18 nb o_bb_19 (es.toInt64) (2 : Int32) _ hc_140) (cwV 2 hts gX5_writeRecord_X5_writeNumber rfl rfl rfl (by decide +kernel) ⟨Nat.le_of_ble_eq_true rfl, Nat.le_of_ble_eq_true rfl⟩) E hP hD hS [0, 1, 2, 3] [4] [1, 2, 3, 4, 0] rfl rfl rfl rfl (by decide) rfl rfl 0 4 rfl rfl rfl hl.1 rfl (Nat.le_of_ble_eq_true rfl) dX5_writeRecord_39 ⟨Nat.zero_le _, Nat.zero_le _⟩ (fun H locs hP hD hS => ?_)
    refine W.eq (g2 := F0 m 42 ls []) rfl ?_
    refine lv_aload_n hx hb dX5_writeRecord_42 rfl (lv_at hl 1 rfl) ?_
    obtain ⟨r_141, hc_142, hf⟩ := obd hf
    refine ct_V (As := []) (rest := []) (wr := [(ap, .inr (4, [.ref aw, .ref ak, .int o_pos_137, .int o_crc_138])), (aw, .inr (5, [.int (zb o_up_132), .int (zb o_cw_133), .int o_bl_134, .int o_wr_135, .int o_fa_136])), (ak, .inr (0, [.ref ar])), (ar, .inl (y 0, nb, .inl o_bb_139))]) (wn := [(ap, .inr (4, [.ref aw, .ref ak, .int o_pos_137, .int o_crc_138])), (aw, .inr (5, [.int (zb o_up_132), .int (zb o_cw_133), .int o_bl_134, .int o_wr_135, .int o_fa_136])), (ak, .inr (0, [.ref ar])), (ar, .inl (y 0, nb, .inl o_bb_139)), (ae, .inr (1, [.int ek, .int es, .int ew, .long ev]))]) hfix (cX2_hasWell_ok l D y ae ek es ew ev _ hc_142) (cwV 0 hts gX5_writeRecord_X2_hasWell rfl rfl rfl (by decide +kernel) ⟨Nat.le_of_ble_eq_true rfl, Nat.le_of_ble_eq_true rfl⟩) E hP hD hS [4] [0, 1, 2, 3] [0, 1, 2, 3, 4] rfl rfl rfl rfl (by decide) rfl rfl 0 1 rfl rfl rfl hl.1 rfl (Nat.le_of_ble_eq_true rfl) dX5_writeRecord_43 ⟨Nat.zero_le _, Nat.zero_le _⟩ (fun H locs hP hD hS => ?_)
    refine W.eq (g2 := F0 m 46 ls [.int (zb r_141)]) rfl ?_
    refine lv_if_eq (tgt := 59) hx hb dX5_writeRecord_46 (by decide) (fun c_143 => ?_) (fun c_143 => ?_)
    · have hf := ifp hf c_143
      refine lv_aload_n hx hb dX5_writeRecord_59 rfl (lv_at hl 1 rfl) ?_
      obtain ⟨r_144, hc_145, hf⟩ := obd hf
      refine ct_V (As := []) (rest := []) (wr := [(ap, .inr (4, [.ref aw, .ref ak, .int o_pos_137, .int o_crc_138])), (aw, .inr (5, [.int (zb o_up_132), .int (zb o_cw_133), .int o_bl_134, .int o_wr_135, .int o_fa_136])), (ak, .inr (0, [.ref ar])), (ar, .inl (y 0, nb, .inl o_bb_139))]) (wn := [(ap, .inr (4, [.ref aw, .ref ak, .int o_pos_137, .int o_crc_138])), (aw, .inr (5, [.int (zb o_up_132), .int (zb o_cw_133), .int o_bl_134, .int o_wr_135, .int o_fa_136])), (ak, .inr (0, [.ref ar])), (ar, .inl (y 0, nb, .inl o_bb_139)), (ae, .inr (1, [.int ek, .int es, .int ew, .long ev]))]) hfix (cX2_hasVolume_ok l D y ae ek es ew ev _ hc_145) (cwV 0 hts gX5_writeRecord_X2_hasVolume rfl rfl rfl (by decide +kernel) ⟨Nat.le_of_ble_eq_true rfl, Nat.le_of_ble_eq_true rfl⟩) E hP hD hS [4] [0, 1, 2, 3] [0, 1, 2, 3, 4] rfl rfl rfl rfl (by decide) rfl rfl 0 1 rfl rfl rfl hl.1 rfl (Nat.le_of_ble_eq_true rfl) dX5_writeRecord_60 ⟨Nat.zero_le _, Nat.zero_le _⟩ (fun H locs hP hD hS => ?_)
      refine W.eq (g2 := F0 m 63 ls [.int (zb r_144)]) rfl ?_
      refine lv_if_eq (tgt := 76) hx hb dX5_writeRecord_63 (by decide) (fun c_146 => ?_) (fun c_146 => ?_)
      · have hf := ifp hf c_146
        refine lv_aload_n hx hb dX5_writeRecord_76 rfl (lv_at hl 0 rfl) ?_
        refine lv_aload_n hx hb dX5_writeRecord_77 rfl (lv_at hl 0 rfl) ?_
        refine va_get (D := D) (ci := 4) (v := .int o_crc_138) (C := RX5) (T := TX5) (N := 4) hx hb hts iX5 hown hK hP 0 rfl rfl 3 (by decide) (hts (.fieldLink RX5 17 "SampleTracker$Pen" "crc" "I") (by decide +kernel)) (fun _ h9 => h9) rfl dX5_writeRecord_78 ?_
        refine ct_S (As := [.int o_crc_138]) (rest := [.ref ap]) (wr := [(ap, .inr (4, [.ref aw, .ref ak, .int o_pos_137, .int o_crc_138])), (aw, .inr (5, [.int (zb o_up_132), .int (zb o_cw_133), .int o_bl_134, .int o_wr_135, .int o_fa_136])), (ak, .inr (0, [.ref ar])), (ar, .inl (y 0, nb, .inl o_bb_139)), (ae, .inr (1, [.int ek, .int es, .int ew, .long ev]))]) (wn := [(ap, .inr (4, [.ref aw, .ref ak, .int o_pos_137, .int o_crc_138])), (aw, .inr (5, [.int (zb o_up_132), .int (zb o_cw_133), .int o_bl_134, .int o_wr_135, .int o_fa_136])), (ak, .inr (0, [.ref ar])), (ar, .inl (y 0, nb, .inl o_bb_139)), (ae, .inr (1, [.int ek, .int es, .int ew, .long ev]))]) hfix (cX1_end_ok l D y o_crc_138) (va_cwS 1 hts gX5_writeRecord_X1_end rfl rfl rfl (by decide +kernel) ⟨Nat.le_of_ble_eq_true rfl, Nat.le_of_ble_eq_true rfl⟩) E hP hD hS [] [0, 1, 2, 3, 4] [0, 1, 2, 3, 4] rfl rfl rfl rfl (by decide) rfl rfl rfl hl.1 rfl (Nat.le_of_ble_eq_true rfl) dX5_writeRecord_81 ⟨Nat.zero_le _, Nat.zero_le _⟩ (fun H locs hP hD hS => ?_)
        refine W.eq (g2 := F0 m 84 ls [.int (o_crc_138 ^^^ (-1 : Int32)), .ref ap]) rfl ?_
        refine lv_i2l (v := ((o_crc_138 ^^^ (-1 : Int32)).toInt64)) hx hb dX5_writeRecord_84 rfl ?_
        refine lv_iconst (v := (4 : Int32)) hx hb dX5_writeRecord_85 (by decide) ?_
        obtain ⟨⟨o_up_148, o_cw_149, o_bl_150, o_wr_151, o_fa_152, o_pos_153, o_crc_154, o_bb_155⟩, hc_156, hf⟩ := obd hf
        refine ct_V (As := [.long ((o_crc_138 ^^^ (-1 : Int32)).toInt64), .int (4 : Int32)]) (rest := []) (wr := [(ae, .inr (1, [.int ek, .int es, .int ew, .long ev]))]) (wn := [(ap, .inr (4, [.ref aw, .ref ak, .int o_pos_153, .int o_crc_154])), (aw, .inr (5, [.int (zb o_up_148), .int (zb o_cw_149), .int o_bl_150, .int o_wr_151, .int o_fa_152])), (ak, .inr (0, [.ref ar])), (ar, .inl (y 0, nb, .inl o_bb_155)), (ae, .inr (1, [.int ek, .int es, .int ew, .long ev]))]) hfix (cX5_writeNumber_ok l D y ap aw ak ar o_up_132 o_cw_133 o_bl_134 o_wr_135 o_fa_136 o_pos_137 o_crc_138 nb o_bb_139 ((o_crc_138 ^^^ (-1 : Int32)).toInt64) (4 : Int32) _ hc_156) (cwV 2 hts gX5_writeRecord_X5_writeNumber rfl rfl rfl (by decide +kernel) ⟨Nat.le_of_ble_eq_true rfl, Nat.le_of_ble_eq_true rfl⟩) E hP hD hS [0, 1, 2, 3] [4] [1, 2, 3, 4, 0] rfl rfl rfl rfl (by decide) rfl rfl 0 4 rfl rfl rfl hl.1 rfl (Nat.le_of_ble_eq_true rfl) dX5_writeRecord_86 ⟨Nat.zero_le _, Nat.zero_le _⟩ (fun H locs hP hD hS => ?_)
        refine W.eq (g2 := F0 m 89 ls []) rfl ?_
        refine lv_aload_n hx hb dX5_writeRecord_89 rfl (lv_at hl 0 rfl) ?_
        refine lv_sipush (v := (165 : Int32)) hx hb dX5_writeRecord_90 (by decide) ?_
        obtain ⟨⟨o_up_157, o_cw_158, o_bl_159, o_wr_160, o_fa_161, o_pos_162, o_bb_163⟩, hc_164, hf⟩ := obd hf
        refine ct_V (As := [.int (165 : Int32)]) (rest := []) (wr := [(ae, .inr (1, [.int ek, .int es, .int ew, .long ev]))]) (wn := [(ap, .inr (4, [.ref aw, .ref ak, .int o_pos_162, .int o_crc_154])), (aw, .inr (5, [.int (zb o_up_157), .int (zb o_cw_158), .int o_bl_159, .int o_wr_160, .int o_fa_161])), (ak, .inr (0, [.ref ar])), (ar, .inl (y 0, nb, .inl o_bb_163)), (ae, .inr (1, [.int ek, .int es, .int ew, .long ev]))]) hfix (cX5_writeByte_ok l D y ap aw ak ar o_up_148 o_cw_149 o_bl_150 o_wr_151 o_fa_152 o_pos_153 o_crc_154 nb o_bb_155 (165 : Int32) _ hc_164) (cwV 1 hts gX5_writeRecord_X5_writeByte rfl rfl rfl (by decide +kernel) ⟨Nat.le_of_ble_eq_true rfl, Nat.le_of_ble_eq_true rfl⟩) E hP hD hS [0, 1, 2, 3] [4] [1, 2, 3, 4, 0] rfl rfl rfl rfl (by decide) rfl rfl 0 4 rfl rfl rfl hl.1 rfl (Nat.le_of_ble_eq_true rfl) dX5_writeRecord_93 ⟨Nat.zero_le _, Nat.zero_le _⟩ (fun H locs hP hD hS => ?_)
        refine W.eq (g2 := F0 m 96 ls []) rfl ?_
        obtain rfl := Option.some.inj hf
        exact W.vret hx hb hr (fun t ht hW => ⟨⟨(), rfl, by rw [ht]; exact hP, hD⟩, hS.F ht⟩) hS.2.2 dX5_writeRecord_96
      · have hf := ifn hf c_146
        refine lv_aload_n hx hb dX5_writeRecord_66 rfl (lv_at hl 0 rfl) ?_
        refine lv_aload_n hx hb dX5_writeRecord_67 rfl (lv_at hl 1 rfl) ?_
        refine va_getN (host := RX8) (D := D) (ci := 1) (v := .long ev) (C := RX2) (T := TX2) (N := 4) hx hb hts iX2 hown hK hP 4 rfl rfl 3 (by decide) (va_Nw.use rfl (E.2.2.1.1 (.fieldLinkNest RX5 65 RX2 "volume" "J" RX8) (by decide +kernel))) (fun _ h9 => h9) rfl dX5_writeRecord_68 ?_
        refine lv_bipush (v := (8 : Int32)) hx hb dX5_writeRecord_71 (by decide) ?_
        obtain ⟨⟨o_up_165, o_cw_166, o_bl_167, o_wr_168, o_fa_169, o_pos_170, o_crc_171, o_bb_172⟩, hc_173, hf⟩ := obd hf
        refine ct_V (As := [.long ev, .int (8 : Int32)]) (rest := []) (wr := [(ae, .inr (1, [.int ek, .int es, .int ew, .long ev]))]) (wn := [(ap, .inr (4, [.ref aw, .ref ak, .int o_pos_170, .int o_crc_171])), (aw, .inr (5, [.int (zb o_up_165), .int (zb o_cw_166), .int o_bl_167, .int o_wr_168, .int o_fa_169])), (ak, .inr (0, [.ref ar])), (ar, .inl (y 0, nb, .inl o_bb_172)), (ae, .inr (1, [.int ek, .int es, .int ew, .long ev]))]) hfix (cX5_writeNumber_ok l D y ap aw ak ar o_up_132 o_cw_133 o_bl_134 o_wr_135 o_fa_136 o_pos_137 o_crc_138 nb o_bb_139 ev (8 : Int32) _ hc_173) (cwV 2 hts gX5_writeRecord_X5_writeNumber rfl rfl rfl (by decide +kernel) ⟨Nat.le_of_ble_eq_true rfl, Nat.le_of_ble_eq_true rfl⟩) E hP hD hS [0, 1, 2, 3] [4] [1, 2, 3, 4, 0] rfl rfl rfl rfl (by decide) rfl rfl 0 4 rfl rfl rfl hl.1 rfl (Nat.le_of_ble_eq_true rfl) dX5_writeRecord_73 ⟨Nat.zero_le _, Nat.zero_le _⟩ (fun H locs hP hD hS => ?_)
        refine W.eq (g2 := F0 m 76 ls []) rfl ?_
        refine lv_aload_n hx hb dX5_writeRecord_76 rfl (lv_at hl 0 rfl) ?_
        refine lv_aload_n hx hb dX5_writeRecord_77 rfl (lv_at hl 0 rfl) ?_
        refine va_get (D := D) (ci := 4) (v := .int o_crc_171) (C := RX5) (T := TX5) (N := 4) hx hb hts iX5 hown hK hP 0 rfl rfl 3 (by decide) (hts (.fieldLink RX5 17 "SampleTracker$Pen" "crc" "I") (by decide +kernel)) (fun _ h9 => h9) rfl dX5_writeRecord_78 ?_
        refine ct_S (As := [.int o_crc_171]) (rest := [.ref ap]) (wr := [(ap, .inr (4, [.ref aw, .ref ak, .int o_pos_170, .int o_crc_171])), (aw, .inr (5, [.int (zb o_up_165), .int (zb o_cw_166), .int o_bl_167, .int o_wr_168, .int o_fa_169])), (ak, .inr (0, [.ref ar])), (ar, .inl (y 0, nb, .inl o_bb_172)), (ae, .inr (1, [.int ek, .int es, .int ew, .long ev]))]) (wn := [(ap, .inr (4, [.ref aw, .ref ak, .int o_pos_170, .int o_crc_171])), (aw, .inr (5, [.int (zb o_up_165), .int (zb o_cw_166), .int o_bl_167, .int o_wr_168, .int o_fa_169])), (ak, .inr (0, [.ref ar])), (ar, .inl (y 0, nb, .inl o_bb_172)), (ae, .inr (1, [.int ek, .int es, .int ew, .long ev]))]) hfix (cX1_end_ok l D y o_crc_171) (va_cwS 1 hts gX5_writeRecord_X1_end rfl rfl rfl (by decide +kernel) ⟨Nat.le_of_ble_eq_true rfl, Nat.le_of_ble_eq_true rfl⟩) E hP hD hS [] [0, 1, 2, 3, 4] [0, 1, 2, 3, 4] rfl rfl rfl rfl (by decide) rfl rfl rfl hl.1 rfl (Nat.le_of_ble_eq_true rfl) dX5_writeRecord_81 ⟨Nat.zero_le _, Nat.zero_le _⟩ (fun H locs hP hD hS => ?_)
        refine W.eq (g2 := F0 m 84 ls [.int (o_crc_171 ^^^ (-1 : Int32)), .ref ap]) rfl ?_
        refine lv_i2l (v := ((o_crc_171 ^^^ (-1 : Int32)).toInt64)) hx hb dX5_writeRecord_84 rfl ?_
        refine lv_iconst (v := (4 : Int32)) hx hb dX5_writeRecord_85 (by decide) ?_
        obtain ⟨⟨o_up_175, o_cw_176, o_bl_177, o_wr_178, o_fa_179, o_pos_180, o_crc_181, o_bb_182⟩, hc_183, hf⟩ := obd hf
        refine ct_V (As := [.long ((o_crc_171 ^^^ (-1 : Int32)).toInt64), .int (4 : Int32)]) (rest := []) (wr := [(ae, .inr (1, [.int ek, .int es, .int ew, .long ev]))]) (wn := [(ap, .inr (4, [.ref aw, .ref ak, .int o_pos_180, .int o_crc_181])), (aw, .inr (5, [.int (zb o_up_175), .int (zb o_cw_176), .int o_bl_177, .int o_wr_178, .int o_fa_179])), (ak, .inr (0, [.ref ar])), (ar, .inl (y 0, nb, .inl o_bb_182)), (ae, .inr (1, [.int ek, .int es, .int ew, .long ev]))]) hfix (cX5_writeNumber_ok l D y ap aw ak ar o_up_165 o_cw_166 o_bl_167 o_wr_168 o_fa_169 o_pos_170 o_crc_171 nb o_bb_172 ((o_crc_171 ^^^ (-1 : Int32)).toInt64) (4 : Int32) _ hc_183) (cwV 2 hts gX5_writeRecord_X5_writeNumber rfl rfl rfl (by decide +kernel) ⟨Nat.le_of_ble_eq_true rfl, Nat.le_of_ble_eq_true rfl⟩) E hP hD hS [0, 1, 2, 3] [4] [1, 2, 3, 4, 0] rfl rfl rfl rfl (by decide) rfl rfl 0 4 rfl rfl rfl hl.1 rfl (Nat.le_of_ble_eq_true rfl) dX5_writeRecord_86 ⟨Nat.zero_le _, Nat.zero_le _⟩ (fun H locs hP hD hS => ?_)
        refine W.eq (g2 := F0 m 89 ls []) rfl ?_
        refine lv_aload_n hx hb dX5_writeRecord_89 rfl (lv_at hl 0 rfl) ?_
        refine lv_sipush (v := (165 : Int32)) hx hb dX5_writeRecord_90 (by decide) ?_
        obtain ⟨⟨o_up_184, o_cw_185, o_bl_186, o_wr_187, o_fa_188, o_pos_189, o_bb_190⟩, hc_191, hf⟩ := obd hf
        refine ct_V (As := [.int (165 : Int32)]) (rest := []) (wr := [(ae, .inr (1, [.int ek, .int es, .int ew, .long ev]))]) (wn := [(ap, .inr (4, [.ref aw, .ref ak, .int o_pos_189, .int o_crc_181])), (aw, .inr (5, [.int (zb o_up_184), .int (zb o_cw_185), .int o_bl_186, .int o_wr_187, .int o_fa_188])), (ak, .inr (0, [.ref ar])), (ar, .inl (y 0, nb, .inl o_bb_190)), (ae, .inr (1, [.int ek, .int es, .int ew, .long ev]))]) hfix (cX5_writeByte_ok l D y ap aw ak ar o_up_175 o_cw_176 o_bl_177 o_wr_178 o_fa_179 o_pos_180 o_crc_181 nb o_bb_182 (165 : Int32) _ hc_191) (cwV 1 hts gX5_writeRecord_X5_writeByte rfl rfl rfl (by decide +kernel) ⟨Nat.le_of_ble_eq_true rfl, Nat.le_of_ble_eq_true rfl⟩) E hP hD hS [0, 1, 2, 3] [4] [1, 2, 3, 4, 0] rfl rfl rfl rfl (by decide) rfl rfl 0 4 rfl rfl rfl hl.1 rfl (Nat.le_of_ble_eq_true rfl) dX5_writeRecord_93 ⟨Nat.zero_le _, Nat.zero_le _⟩ (fun H locs hP hD hS => ?_)
        refine W.eq (g2 := F0 m 96 ls []) rfl ?_
        obtain rfl := Option.some.inj hf
        exact W.vret hx hb hr (fun t ht hW => ⟨⟨(), rfl, by rw [ht]; exact hP, hD⟩, hS.F ht⟩) hS.2.2 dX5_writeRecord_96
    · have hf := ifn hf c_143
      refine lv_aload_n hx hb dX5_writeRecord_49 rfl (lv_at hl 0 rfl) ?_
      refine lv_aload_n hx hb dX5_writeRecord_50 rfl (lv_at hl 1 rfl) ?_
      refine va_getN (host := RX8) (D := D) (ci := 1) (v := .int ew) (C := RX2) (T := TX2) (N := 4) hx hb hts iX2 hown hK hP 4 rfl rfl 2 (by decide) (va_Nw.use rfl (E.2.2.1.1 (.fieldLinkNest RX5 59 RX2 "well" "I" RX8) (by decide +kernel))) (fun _ h9 => h9) rfl dX5_writeRecord_51 ?_
      refine lv_i2l (v := (ew.toInt64)) hx hb dX5_writeRecord_54 rfl ?_
      refine lv_iconst (v := (1 : Int32)) hx hb dX5_writeRecord_55 (by decide) ?_
      obtain ⟨⟨o_up_192, o_cw_193, o_bl_194, o_wr_195, o_fa_196, o_pos_197, o_crc_198, o_bb_199⟩, hc_200, hf⟩ := obd hf
      refine ct_V (As := [.long (ew.toInt64), .int (1 : Int32)]) (rest := []) (wr := [(ae, .inr (1, [.int ek, .int es, .int ew, .long ev]))]) (wn := [(ap, .inr (4, [.ref aw, .ref ak, .int o_pos_197, .int o_crc_198])), (aw, .inr (5, [.int (zb o_up_192), .int (zb o_cw_193), .int o_bl_194, .int o_wr_195, .int o_fa_196])), (ak, .inr (0, [.ref ar])), (ar, .inl (y 0, nb, .inl o_bb_199)), (ae, .inr (1, [.int ek, .int es, .int ew, .long ev]))]) hfix (cX5_writeNumber_ok l D y ap aw ak ar o_up_132 o_cw_133 o_bl_134 o_wr_135 o_fa_136 o_pos_137 o_crc_138 nb o_bb_139 (ew.toInt64) (1 : Int32) _ hc_200) (cwV 2 hts gX5_writeRecord_X5_writeNumber rfl rfl rfl (by decide +kernel) ⟨Nat.le_of_ble_eq_true rfl, Nat.le_of_ble_eq_true rfl⟩) E hP hD hS [0, 1, 2, 3] [4] [1, 2, 3, 4, 0] rfl rfl rfl rfl (by decide) rfl rfl 0 4 rfl rfl rfl hl.1 rfl (Nat.le_of_ble_eq_true rfl) dX5_writeRecord_56 ⟨Nat.zero_le _, Nat.zero_le _⟩ (fun H locs hP hD hS => ?_)
      refine W.eq (g2 := F0 m 59 ls []) rfl ?_
      refine lv_aload_n hx hb dX5_writeRecord_59 rfl (lv_at hl 1 rfl) ?_
      obtain ⟨r_201, hc_202, hf⟩ := obd hf
      refine ct_V (As := []) (rest := []) (wr := [(ap, .inr (4, [.ref aw, .ref ak, .int o_pos_197, .int o_crc_198])), (aw, .inr (5, [.int (zb o_up_192), .int (zb o_cw_193), .int o_bl_194, .int o_wr_195, .int o_fa_196])), (ak, .inr (0, [.ref ar])), (ar, .inl (y 0, nb, .inl o_bb_199))]) (wn := [(ap, .inr (4, [.ref aw, .ref ak, .int o_pos_197, .int o_crc_198])), (aw, .inr (5, [.int (zb o_up_192), .int (zb o_cw_193), .int o_bl_194, .int o_wr_195, .int o_fa_196])), (ak, .inr (0, [.ref ar])), (ar, .inl (y 0, nb, .inl o_bb_199)), (ae, .inr (1, [.int ek, .int es, .int ew, .long ev]))]) hfix (cX2_hasVolume_ok l D y ae ek es ew ev _ hc_202) (cwV 0 hts gX5_writeRecord_X2_hasVolume rfl rfl rfl (by decide +kernel) ⟨Nat.le_of_ble_eq_true rfl, Nat.le_of_ble_eq_true rfl⟩) E hP hD hS [4] [0, 1, 2, 3] [0, 1, 2, 3, 4] rfl rfl rfl rfl (by decide) rfl rfl 0 1 rfl rfl rfl hl.1 rfl (Nat.le_of_ble_eq_true rfl) dX5_writeRecord_60 ⟨Nat.zero_le _, Nat.zero_le _⟩ (fun H locs hP hD hS => ?_)
      refine W.eq (g2 := F0 m 63 ls [.int (zb r_201)]) rfl ?_
      refine lv_if_eq (tgt := 76) hx hb dX5_writeRecord_63 (by decide) (fun c_203 => ?_) (fun c_203 => ?_)
      · have hf := ifp hf c_203
        refine lv_aload_n hx hb dX5_writeRecord_76 rfl (lv_at hl 0 rfl) ?_
        refine lv_aload_n hx hb dX5_writeRecord_77 rfl (lv_at hl 0 rfl) ?_
        refine va_get (D := D) (ci := 4) (v := .int o_crc_198) (C := RX5) (T := TX5) (N := 4) hx hb hts iX5 hown hK hP 0 rfl rfl 3 (by decide) (hts (.fieldLink RX5 17 "SampleTracker$Pen" "crc" "I") (by decide +kernel)) (fun _ h9 => h9) rfl dX5_writeRecord_78 ?_
        refine ct_S (As := [.int o_crc_198]) (rest := [.ref ap]) (wr := [(ap, .inr (4, [.ref aw, .ref ak, .int o_pos_197, .int o_crc_198])), (aw, .inr (5, [.int (zb o_up_192), .int (zb o_cw_193), .int o_bl_194, .int o_wr_195, .int o_fa_196])), (ak, .inr (0, [.ref ar])), (ar, .inl (y 0, nb, .inl o_bb_199)), (ae, .inr (1, [.int ek, .int es, .int ew, .long ev]))]) (wn := [(ap, .inr (4, [.ref aw, .ref ak, .int o_pos_197, .int o_crc_198])), (aw, .inr (5, [.int (zb o_up_192), .int (zb o_cw_193), .int o_bl_194, .int o_wr_195, .int o_fa_196])), (ak, .inr (0, [.ref ar])), (ar, .inl (y 0, nb, .inl o_bb_199)), (ae, .inr (1, [.int ek, .int es, .int ew, .long ev]))]) hfix (cX1_end_ok l D y o_crc_198) (va_cwS 1 hts gX5_writeRecord_X1_end rfl rfl rfl (by decide +kernel) ⟨Nat.le_of_ble_eq_true rfl, Nat.le_of_ble_eq_true rfl⟩) E hP hD hS [] [0, 1, 2, 3, 4] [0, 1, 2, 3, 4] rfl rfl rfl rfl (by decide) rfl rfl rfl hl.1 rfl (Nat.le_of_ble_eq_true rfl) dX5_writeRecord_81 ⟨Nat.zero_le _, Nat.zero_le _⟩ (fun H locs hP hD hS => ?_)
        refine W.eq (g2 := F0 m 84 ls [.int (o_crc_198 ^^^ (-1 : Int32)), .ref ap]) rfl ?_
        refine lv_i2l (v := ((o_crc_198 ^^^ (-1 : Int32)).toInt64)) hx hb dX5_writeRecord_84 rfl ?_
        refine lv_iconst (v := (4 : Int32)) hx hb dX5_writeRecord_85 (by decide) ?_
        obtain ⟨⟨o_up_205, o_cw_206, o_bl_207, o_wr_208, o_fa_209, o_pos_210, o_crc_211, o_bb_212⟩, hc_213, hf⟩ := obd hf
        refine ct_V (As := [.long ((o_crc_198 ^^^ (-1 : Int32)).toInt64), .int (4 : Int32)]) (rest := []) (wr := [(ae, .inr (1, [.int ek, .int es, .int ew, .long ev]))]) (wn := [(ap, .inr (4, [.ref aw, .ref ak, .int o_pos_210, .int o_crc_211])), (aw, .inr (5, [.int (zb o_up_205), .int (zb o_cw_206), .int o_bl_207, .int o_wr_208, .int o_fa_209])), (ak, .inr (0, [.ref ar])), (ar, .inl (y 0, nb, .inl o_bb_212)), (ae, .inr (1, [.int ek, .int es, .int ew, .long ev]))]) hfix (cX5_writeNumber_ok l D y ap aw ak ar o_up_192 o_cw_193 o_bl_194 o_wr_195 o_fa_196 o_pos_197 o_crc_198 nb o_bb_199 ((o_crc_198 ^^^ (-1 : Int32)).toInt64) (4 : Int32) _ hc_213) (cwV 2 hts gX5_writeRecord_X5_writeNumber rfl rfl rfl (by decide +kernel) ⟨Nat.le_of_ble_eq_true rfl, Nat.le_of_ble_eq_true rfl⟩) E hP hD hS [0, 1, 2, 3] [4] [1, 2, 3, 4, 0] rfl rfl rfl rfl (by decide) rfl rfl 0 4 rfl rfl rfl hl.1 rfl (Nat.le_of_ble_eq_true rfl) dX5_writeRecord_86 ⟨Nat.zero_le _, Nat.zero_le _⟩ (fun H locs hP hD hS => ?_)
        refine W.eq (g2 := F0 m 89 ls []) rfl ?_
        refine lv_aload_n hx hb dX5_writeRecord_89 rfl (lv_at hl 0 rfl) ?_
        refine lv_sipush (v := (165 : Int32)) hx hb dX5_writeRecord_90 (by decide) ?_
        obtain ⟨⟨o_up_214, o_cw_215, o_bl_216, o_wr_217, o_fa_218, o_pos_219, o_bb_220⟩, hc_221, hf⟩ := obd hf
        refine ct_V (As := [.int (165 : Int32)]) (rest := []) (wr := [(ae, .inr (1, [.int ek, .int es, .int ew, .long ev]))]) (wn := [(ap, .inr (4, [.ref aw, .ref ak, .int o_pos_219, .int o_crc_211])), (aw, .inr (5, [.int (zb o_up_214), .int (zb o_cw_215), .int o_bl_216, .int o_wr_217, .int o_fa_218])), (ak, .inr (0, [.ref ar])), (ar, .inl (y 0, nb, .inl o_bb_220)), (ae, .inr (1, [.int ek, .int es, .int ew, .long ev]))]) hfix (cX5_writeByte_ok l D y ap aw ak ar o_up_205 o_cw_206 o_bl_207 o_wr_208 o_fa_209 o_pos_210 o_crc_211 nb o_bb_212 (165 : Int32) _ hc_221) (cwV 1 hts gX5_writeRecord_X5_writeByte rfl rfl rfl (by decide +kernel) ⟨Nat.le_of_ble_eq_true rfl, Nat.le_of_ble_eq_true rfl⟩) E hP hD hS [0, 1, 2, 3] [4] [1, 2, 3, 4, 0] rfl rfl rfl rfl (by decide) rfl rfl 0 4 rfl rfl rfl hl.1 rfl (Nat.le_of_ble_eq_true rfl) dX5_writeRecord_93 ⟨Nat.zero_le _, Nat.zero_le _⟩ (fun H locs hP hD hS => ?_)
        refine W.eq (g2 := F0 m 96 ls []) rfl ?_
        obtain rfl := Option.some.inj hf
        exact W.vret hx hb hr (fun t ht hW => ⟨⟨(), rfl, by rw [ht]; exact hP, hD⟩, hS.F ht⟩) hS.2.2 dX5_writeRecord_96
      · have hf := ifn hf c_203
        refine lv_aload_n hx hb dX5_writeRecord_66 rfl (lv_at hl 0 rfl) ?_
        refine lv_aload_n hx hb dX5_writeRecord_67 rfl (lv_at hl 1 rfl) ?_
        refine va_getN (host := RX8) (D := D) (ci := 1) (v := .long ev) (C := RX2) (T := TX2) (N := 4) hx hb hts iX2 hown hK hP 4 rfl rfl 3 (by decide) (va_Nw.use rfl (E.2.2.1.1 (.fieldLinkNest RX5 65 RX2 "volume" "J" RX8) (by decide +kernel))) (fun _ h9 => h9) rfl dX5_writeRecord_68 ?_
        refine lv_bipush (v := (8 : Int32)) hx hb dX5_writeRecord_71 (by decide) ?_
        obtain ⟨⟨o_up_222, o_cw_223, o_bl_224, o_wr_225, o_fa_226, o_pos_227, o_crc_228, o_bb_229⟩, hc_230, hf⟩ := obd hf
        refine ct_V (As := [.long ev, .int (8 : Int32)]) (rest := []) (wr := [(ae, .inr (1, [.int ek, .int es, .int ew, .long ev]))]) (wn := [(ap, .inr (4, [.ref aw, .ref ak, .int o_pos_227, .int o_crc_228])), (aw, .inr (5, [.int (zb o_up_222), .int (zb o_cw_223), .int o_bl_224, .int o_wr_225, .int o_fa_226])), (ak, .inr (0, [.ref ar])), (ar, .inl (y 0, nb, .inl o_bb_229)), (ae, .inr (1, [.int ek, .int es, .int ew, .long ev]))]) hfix (cX5_writeNumber_ok l D y ap aw ak ar o_up_192 o_cw_193 o_bl_194 o_wr_195 o_fa_196 o_pos_197 o_crc_198 nb o_bb_199 ev (8 : Int32) _ hc_230) (cwV 2 hts gX5_writeRecord_X5_writeNumber rfl rfl rfl (by decide +kernel) ⟨Nat.le_of_ble_eq_true rfl, Nat.le_of_ble_eq_true rfl⟩) E hP hD hS [0, 1, 2, 3] [4] [1, 2, 3, 4, 0] rfl rfl rfl rfl (by decide) rfl rfl 0 4 rfl rfl rfl hl.1 rfl (Nat.le_of_ble_eq_true rfl) dX5_writeRecord_73 ⟨Nat.zero_le _, Nat.zero_le _⟩ (fun H locs hP hD hS => ?_)
        refine W.eq (g2 := F0 m 76 ls []) rfl ?_
        refine lv_aload_n hx hb dX5_writeRecord_76 rfl (lv_at hl 0 rfl) ?_
        refine lv_aload_n hx hb dX5_writeRecord_77 rfl (lv_at hl 0 rfl) ?_
        refine va_get (D := D) (ci := 4) (v := .int o_crc_228) (C := RX5) (T := TX5) (N := 4) hx hb hts iX5 hown hK hP 0 rfl rfl 3 (by decide) (hts (.fieldLink RX5 17 "SampleTracker$Pen" "crc" "I") (by decide +kernel)) (fun _ h9 => h9) rfl dX5_writeRecord_78 ?_
        refine ct_S (As := [.int o_crc_228]) (rest := [.ref ap]) (wr := [(ap, .inr (4, [.ref aw, .ref ak, .int o_pos_227, .int o_crc_228])), (aw, .inr (5, [.int (zb o_up_222), .int (zb o_cw_223), .int o_bl_224, .int o_wr_225, .int o_fa_226])), (ak, .inr (0, [.ref ar])), (ar, .inl (y 0, nb, .inl o_bb_229)), (ae, .inr (1, [.int ek, .int es, .int ew, .long ev]))]) (wn := [(ap, .inr (4, [.ref aw, .ref ak, .int o_pos_227, .int o_crc_228])), (aw, .inr (5, [.int (zb o_up_222), .int (zb o_cw_223), .int o_bl_224, .int o_wr_225, .int o_fa_226])), (ak, .inr (0, [.ref ar])), (ar, .inl (y 0, nb, .inl o_bb_229)), (ae, .inr (1, [.int ek, .int es, .int ew, .long ev]))]) hfix (cX1_end_ok l D y o_crc_228) (va_cwS 1 hts gX5_writeRecord_X1_end rfl rfl rfl (by decide +kernel) ⟨Nat.le_of_ble_eq_true rfl, Nat.le_of_ble_eq_true rfl⟩) E hP hD hS [] [0, 1, 2, 3, 4] [0, 1, 2, 3, 4] rfl rfl rfl rfl (by decide) rfl rfl rfl hl.1 rfl (Nat.le_of_ble_eq_true rfl) dX5_writeRecord_81 ⟨Nat.zero_le _, Nat.zero_le _⟩ (fun H locs hP hD hS => ?_)
        refine W.eq (g2 := F0 m 84 ls [.int (o_crc_228 ^^^ (-1 : Int32)), .ref ap]) rfl ?_
        refine lv_i2l (v := ((o_crc_228 ^^^ (-1 : Int32)).toInt64)) hx hb dX5_writeRecord_84 rfl ?_
        refine lv_iconst (v := (4 : Int32)) hx hb dX5_writeRecord_85 (by decide) ?_
        obtain ⟨⟨o_up_232, o_cw_233, o_bl_234, o_wr_235, o_fa_236, o_pos_237, o_crc_238, o_bb_239⟩, hc_240, hf⟩ := obd hf
        refine ct_V (As := [.long ((o_crc_228 ^^^ (-1 : Int32)).toInt64), .int (4 : Int32)]) (rest := []) (wr := [(ae, .inr (1, [.int ek, .int es, .int ew, .long ev]))]) (wn := [(ap, .inr (4, [.ref aw, .ref ak, .int o_pos_237, .int o_crc_238])), (aw, .inr (5, [.int (zb o_up_232), .int (zb o_cw_233), .int o_bl_234, .int o_wr_235, .int o_fa_236])), (ak, .inr (0, [.ref ar])), (ar, .inl (y 0, nb, .inl o_bb_239)), (ae, .inr (1, [.int ek, .int es, .int ew, .long ev]))]) hfix (cX5_writeNumber_ok l D y ap aw ak ar o_up_222 o_cw_223 o_bl_224 o_wr_225 o_fa_226 o_pos_227 o_crc_228 nb o_bb_229 ((o_crc_228 ^^^ (-1 : Int32)).toInt64) (4 : Int32) _ hc_240) (cwV 2 hts gX5_writeRecord_X5_writeNumber rfl rfl rfl (by decide +kernel) ⟨Nat.le_of_ble_eq_true rfl, Nat.le_of_ble_eq_true rfl⟩) E hP hD hS [0, 1, 2, 3] [4] [1, 2, 3, 4, 0] rfl rfl rfl rfl (by decide) rfl rfl 0 4 rfl rfl rfl hl.1 rfl (Nat.le_of_ble_eq_true rfl) dX5_writeRecord_86 ⟨Nat.zero_le _, Nat.zero_le _⟩ (fun H locs hP hD hS => ?_)
        refine W.eq (g2 := F0 m 89 ls []) rfl ?_
        refine lv_aload_n hx hb dX5_writeRecord_89 rfl (lv_at hl 0 rfl) ?_
        refine lv_sipush (v := (165 : Int32)) hx hb dX5_writeRecord_90 (by decide) ?_
        obtain ⟨⟨o_up_241, o_cw_242, o_bl_243, o_wr_244, o_fa_245, o_pos_246, o_bb_247⟩, hc_248, hf⟩ := obd hf
        refine ct_V (As := [.int (165 : Int32)]) (rest := []) (wr := [(ae, .inr (1, [.int ek, .int es, .int ew, .long ev]))]) (wn := [(ap, .inr (4, [.ref aw, .ref ak, .int o_pos_246, .int o_crc_238])), (aw, .inr (5, [.int (zb o_up_241), .int (zb o_cw_242), .int o_bl_243, .int o_wr_244, .int o_fa_245])), (ak, .inr (0, [.ref ar])), (ar, .inl (y 0, nb, .inl o_bb_247)), (ae, .inr (1, [.int ek, .int es, .int ew, .long ev]))]) hfix (cX5_writeByte_ok l D y ap aw ak ar o_up_232 o_cw_233 o_bl_234 o_wr_235 o_fa_236 o_pos_237 o_crc_238 nb o_bb_239 (165 : Int32) _ hc_248) (cwV 1 hts gX5_writeRecord_X5_writeByte rfl rfl rfl (by decide +kernel) ⟨Nat.le_of_ble_eq_true rfl, Nat.le_of_ble_eq_true rfl⟩) E hP hD hS [0, 1, 2, 3] [4] [1, 2, 3, 4, 0] rfl rfl rfl rfl (by decide) rfl rfl 0 4 rfl rfl rfl hl.1 rfl (Nat.le_of_ble_eq_true rfl) dX5_writeRecord_93 ⟨Nat.zero_le _, Nat.zero_le _⟩ (fun H locs hP hD hS => ?_)
        refine W.eq (g2 := F0 m 96 ls []) rfl ?_
        obtain rfl := Option.some.inj hf
        exact W.vret hx hb hr (fun t ht hW => ⟨⟨(), rfl, by rw [ht]; exact hP, hD⟩, hS.F ht⟩) hS.2.2 dX5_writeRecord_96

