/-! 15.journal: laid by wip/whole/gen.py: mirrors and contracts -/
set_option maxHeartbeats 4000000 in
set_option maxRecDepth 100000 in
theorem cX3_bank_1_ok (l : Launch) (D : va_G) (y : Nat → ClassId) (aj : Nat) (aw : Nat) (k1 : Nat) (r1 : Nat) (k2 : Nat) (r2 : Nat) (ap : Nat) (up : Bool) (cw : Bool) (bl : Int32) (wr : Int32) (fa : Int32) (pb : Nat) (pos : Int32) (crc : Int32) (nb : Nat) (b1 : Nat → Int32) (b2 : Nat → Int32) (iu : Int32) (en : Int32) (p1 : Int32) (hv0 : (p1 = 0)) : CT l D y yX3_bank wsX3_bank ({ frames := 0, cells := 0, slots := 0, locals := 0 } : Room) [.ref aj, .int p1] [(aj, .inr (2, [.ref aw, .ref k1, .ref k2, .ref ap, .int iu, .int en])), (aw, .inr (5, [.int (zb up), .int (zb cw), .int bl, .int wr, .int fa])), (k1, .inr (0, [.ref r1])), (r1, .inl (y 0, nb, .inl b1)), (k2, .inr (0, [.ref r2])), (r2, .inl (y 0, nb, .inl b2)), (ap, .inr (4, [.ref aw, .ref pb, .int pos, .int crc]))] (some (.ref k1)) [(aj, .inr (2, [.ref aw, .ref k1, .ref k2, .ref ap, .int iu, .int en])), (aw, .inr (5, [.int (zb up), .int (zb cw), .int bl, .int wr, .int fa])), (k1, .inr (0, [.ref r1])), (r1, .inl (y 0, nb, .inl b1)), (k2, .inr (0, [.ref r2])), (r2, .inl (y 0, nb, .inl b2)), (ap, .inr (4, [.ref aw, .ref pb, .int pos, .int crc]))] := by
  intro sz
  refine Met.ofW (cc := cX3_bank) (maxL := 2) (ret := (some (.object "SampleTracker$Bank"))) (by decide) rfl ?_
  intro p e s m args below meth c s₁ B hml hv
  obtain ⟨rfl, hsz, hP, hK, hD0, hst, hno⟩ := hv
  have hx := B.exec
  have hb := B.bytes
  have hr := B.returns
  have hts := atoms_spec (ws := wsX3_bank) B.pre
  have hown : s.vm.findClass RX3 = some m.cls := findClass_of_methodNamed B.named
  have hlocks := B.notSynchronized
  subst hsz
  have hD := hD0.self (sz := s.heap.size)
  generalize hAe : va_A [(aj, .inr (2, [.ref aw, .ref k1, .ref k2, .ref ap, .int iu, .int en])), (aw, .inr (5, [.int (zb up), .int (zb cw), .int bl, .int wr, .int fa])), (k1, .inr (0, [.ref r1])), (r1, .inl (y 0, nb, .inl b1)), (k2, .inr (0, [.ref r2])), (r2, .inl (y 0, nb, .inl b2)), (ap, .inr (4, [.ref aw, .ref pb, .int pos, .int crc]))] s.heap.size = A at hD hst ⊢
  have hA : ∀ q : Nat, s.heap.size ≤ q → A q := fun q h => by rw [← hAe]; exact Or.inr h
  have hS : va_S A s.heap s.heap [] := va_S.rf
  have E : Ev D y A s := ⟨hK, hst, hno, hA⟩
  have hfix : CallFix p m c cX3_bank 2 s _ wsX3_bank RX3 := ⟨hx, hb, hml, hown, hts⟩
  have hP : va_P D vwCl [(aj, .inr (2, [.ref aw, .ref k1, .ref k2, .ref ap, .int iu, .int en])), (aw, .inr (5, [.int (zb up), .int (zb cw), .int bl, .int wr, .int fa])), (k1, .inr (0, [.ref r1])), (r1, .inl (y 0, nb, .inl b1)), (k2, .inr (0, [.ref r2])), (r2, .inl (y 0, nb, .inl b2)), (ap, .inr (4, [.ref aw, .ref pb, .int pos, .int crc]))] s.heap := hP
  have iX3 : ∀ w ∈ wsX30, w ∈ wsX3_bank := by decide +kernel
  have hl := lv_entry ([.ref aj, .int p1]) (n := 2) (Nat.le_of_ble_eq_true rfl)
  rw [lg_entry_eq]
  generalize (lg_sl ([.ref aj, .int p1]) ++ List.replicate (2 - (lg_sl ([.ref aj, .int p1])).length) Slot.unset).toArray = ls at hl ⊢
  have hl : lv_has ls 2 [(0, .ref aj), (1, .int p1)] := hl
  refine lv_iload_n hx hb dX3_bank_0 rfl (lv_at hl 1 rfl) ?_
  refine lv_if_ne (tgt := 11) hx hb dX3_bank_1 (by decide) (fun c_1 => absurd hv0 c_1) (fun c_1 => ?_)
  refine lv_aload_n hx hb dX3_bank_4 rfl (lv_at hl 0 rfl) ?_
  refine va_get (D := D) (ci := 2) (v := .ref k1) (C := RX3) (T := TX3) (N := 6) hx hb hts iX3 hown hK hP 0 rfl rfl 1 (by decide) (hts (.fieldLink RX3 27 "SampleTracker$Journal" "first" "LSampleTracker$Bank;") (by decide +kernel)) (fun _ h9 => h9) rfl dX3_bank_5 ?_
  refine lv_goto (tgt := 15) hx hb dX3_bank_8 (by decide) ?_
  exact W.aret hx hb hr (Or.inl ⟨_, rfl⟩) (Or.inr ⟨_, rfl⟩) (fun t ht hW => ⟨⟨(), rfl, by rw [ht]; exact hP, hD⟩, hS.F ht⟩) hS.2.2 dX3_bank_15

set_option maxHeartbeats 4000000 in
set_option maxRecDepth 100000 in
theorem cX3_bank_2_ok (l : Launch) (D : va_G) (y : Nat → ClassId) (aj : Nat) (aw : Nat) (k1 : Nat) (r1 : Nat) (k2 : Nat) (r2 : Nat) (ap : Nat) (up : Bool) (cw : Bool) (bl : Int32) (wr : Int32) (fa : Int32) (pb : Nat) (pos : Int32) (crc : Int32) (nb : Nat) (b1 : Nat → Int32) (b2 : Nat → Int32) (iu : Int32) (en : Int32) (p1 : Int32) (hv0 : ¬ (p1 = 0)) : CT l D y yX3_bank wsX3_bank ({ frames := 0, cells := 0, slots := 0, locals := 0 } : Room) [.ref aj, .int p1] [(aj, .inr (2, [.ref aw, .ref k1, .ref k2, .ref ap, .int iu, .int en])), (aw, .inr (5, [.int (zb up), .int (zb cw), .int bl, .int wr, .int fa])), (k1, .inr (0, [.ref r1])), (r1, .inl (y 0, nb, .inl b1)), (k2, .inr (0, [.ref r2])), (r2, .inl (y 0, nb, .inl b2)), (ap, .inr (4, [.ref aw, .ref pb, .int pos, .int crc]))] (some (.ref k2)) [(aj, .inr (2, [.ref aw, .ref k1, .ref k2, .ref ap, .int iu, .int en])), (aw, .inr (5, [.int (zb up), .int (zb cw), .int bl, .int wr, .int fa])), (k1, .inr (0, [.ref r1])), (r1, .inl (y 0, nb, .inl b1)), (k2, .inr (0, [.ref r2])), (r2, .inl (y 0, nb, .inl b2)), (ap, .inr (4, [.ref aw, .ref pb, .int pos, .int crc]))] := by
  intro sz
  refine Met.ofW (cc := cX3_bank) (maxL := 2) (ret := (some (.object "SampleTracker$Bank"))) (by decide) rfl ?_
  intro p e s m args below meth c s₁ B hml hv
  obtain ⟨rfl, hsz, hP, hK, hD0, hst, hno⟩ := hv
  have hx := B.exec
  have hb := B.bytes
  have hr := B.returns
  have hts := atoms_spec (ws := wsX3_bank) B.pre
  have hown : s.vm.findClass RX3 = some m.cls := findClass_of_methodNamed B.named
  have hlocks := B.notSynchronized
  subst hsz
  have hD := hD0.self (sz := s.heap.size)
  generalize hAe : va_A [(aj, .inr (2, [.ref aw, .ref k1, .ref k2, .ref ap, .int iu, .int en])), (aw, .inr (5, [.int (zb up), .int (zb cw), .int bl, .int wr, .int fa])), (k1, .inr (0, [.ref r1])), (r1, .inl (y 0, nb, .inl b1)), (k2, .inr (0, [.ref r2])), (r2, .inl (y 0, nb, .inl b2)), (ap, .inr (4, [.ref aw, .ref pb, .int pos, .int crc]))] s.heap.size = A at hD hst ⊢
  have hA : ∀ q : Nat, s.heap.size ≤ q → A q := fun q h => by rw [← hAe]; exact Or.inr h
  have hS : va_S A s.heap s.heap [] := va_S.rf
  have E : Ev D y A s := ⟨hK, hst, hno, hA⟩
  have hfix : CallFix p m c cX3_bank 2 s _ wsX3_bank RX3 := ⟨hx, hb, hml, hown, hts⟩
  have hP : va_P D vwCl [(aj, .inr (2, [.ref aw, .ref k1, .ref k2, .ref ap, .int iu, .int en])), (aw, .inr (5, [.int (zb up), .int (zb cw), .int bl, .int wr, .int fa])), (k1, .inr (0, [.ref r1])), (r1, .inl (y 0, nb, .inl b1)), (k2, .inr (0, [.ref r2])), (r2, .inl (y 0, nb, .inl b2)), (ap, .inr (4, [.ref aw, .ref pb, .int pos, .int crc]))] s.heap := hP
  have iX3 : ∀ w ∈ wsX30, w ∈ wsX3_bank := by decide +kernel
  have hl := lv_entry ([.ref aj, .int p1]) (n := 2) (Nat.le_of_ble_eq_true rfl)
  rw [lg_entry_eq]
  generalize (lg_sl ([.ref aj, .int p1]) ++ List.replicate (2 - (lg_sl ([.ref aj, .int p1])).length) Slot.unset).toArray = ls at hl ⊢
  have hl : lv_has ls 2 [(0, .ref aj), (1, .int p1)] := hl
  refine lv_iload_n hx hb dX3_bank_0 rfl (lv_at hl 1 rfl) ?_
  refine lv_if_ne (tgt := 11) hx hb dX3_bank_1 (by decide) (fun c_1 => ?_) (fun c_1 => absurd c_1 hv0)
  refine lv_aload_n hx hb dX3_bank_11 rfl (lv_at hl 0 rfl) ?_
  refine va_get (D := D) (ci := 2) (v := .ref k2) (C := RX3) (T := TX3) (N := 6) hx hb hts iX3 hown hK hP 0 rfl rfl 2 (by decide) (hts (.fieldLink RX3 31 "SampleTracker$Journal" "second" "LSampleTracker$Bank;") (by decide +kernel)) (fun _ h9 => h9) rfl dX3_bank_12 ?_
  exact W.aret hx hb hr (Or.inl ⟨_, rfl⟩) (Or.inr ⟨_, rfl⟩) (fun t ht hW => ⟨⟨(), rfl, by rw [ht]; exact hP, hD⟩, hS.F ht⟩) hS.2.2 dX3_bank_15

set_option maxHeartbeats 4000000 in
set_option maxRecDepth 100000 in
theorem cX3_bankBytes_ok (l : Launch) (D : va_G) (y : Nat → ClassId) (aj : Nat) (aw : Nat) (k1 : Nat) (r1 : Nat) (k2 : Nat) (r2 : Nat) (ap : Nat) (up : Bool) (cw : Bool) (bl : Int32) (wr : Int32) (fa : Int32) (pb : Nat) (pos : Int32) (crc : Int32) (nb : Nat) (b1 : Nat → Int32) (b2 : Nat → Int32) (iu : Int32) (en : Int32) : CT l D y yX3_bankBytes wsX3_bankBytes ({ frames := 1, cells := 0, slots := 0, locals := 20 } : Room) [.ref aj] [(aj, .inr (2, [.ref aw, .ref k1, .ref k2, .ref ap, .int iu, .int en])), (aw, .inr (5, [.int (zb up), .int (zb cw), .int bl, .int wr, .int fa])), (k1, .inr (0, [.ref r1])), (r1, .inl (y 0, nb, .inl b1)), (k2, .inr (0, [.ref r2])), (r2, .inl (y 0, nb, .inl b2)), (ap, .inr (4, [.ref aw, .ref pb, .int pos, .int crc]))] (some (.int (nI nb))) [(aj, .inr (2, [.ref aw, .ref k1, .ref k2, .ref ap, .int iu, .int en])), (aw, .inr (5, [.int (zb up), .int (zb cw), .int bl, .int wr, .int fa])), (k1, .inr (0, [.ref r1])), (r1, .inl (y 0, nb, .inl b1)), (k2, .inr (0, [.ref r2])), (r2, .inl (y 0, nb, .inl b2)), (ap, .inr (4, [.ref aw, .ref pb, .int pos, .int crc]))] := by
  intro sz
  refine Met.ofW (cc := cX3_bankBytes) (maxL := 1) (ret := (some .int)) (by decide) rfl ?_
  intro p e s m args below meth c s₁ B hml hv
  obtain ⟨rfl, hsz, hP, hK, hD0, hst, hno⟩ := hv
  have hx := B.exec
  have hb := B.bytes
  have hr := B.returns
  have hts := atoms_spec (ws := wsX3_bankBytes) B.pre
  have hown : s.vm.findClass RX3 = some m.cls := findClass_of_methodNamed B.named
  have hlocks := B.notSynchronized
  subst hsz
  have hD := hD0.self (sz := s.heap.size)
  generalize hAe : va_A [(aj, .inr (2, [.ref aw, .ref k1, .ref k2, .ref ap, .int iu, .int en])), (aw, .inr (5, [.int (zb up), .int (zb cw), .int bl, .int wr, .int fa])), (k1, .inr (0, [.ref r1])), (r1, .inl (y 0, nb, .inl b1)), (k2, .inr (0, [.ref r2])), (r2, .inl (y 0, nb, .inl b2)), (ap, .inr (4, [.ref aw, .ref pb, .int pos, .int crc]))] s.heap.size = A at hD hst ⊢
  have hA : ∀ q : Nat, s.heap.size ≤ q → A q := fun q h => by rw [← hAe]; exact Or.inr h
  have hS : va_S A s.heap s.heap [] := va_S.rf
  have E : Ev D y A s := ⟨hK, hst, hno, hA⟩
  have hfix : CallFix p m c cX3_bankBytes 1 s _ wsX3_bankBytes RX3 := ⟨hx, hb, hml, hown, hts⟩
  have hP : va_P D vwCl [(aj, .inr (2, [.ref aw, .ref k1, .ref k2, .ref ap, .int iu, .int en])), (aw, .inr (5, [.int (zb up), .int (zb cw), .int bl, .int wr, .int fa])), (k1, .inr (0, [.ref r1])), (r1, .inl (y 0, nb, .inl b1)), (k2, .inr (0, [.ref r2])), (r2, .inl (y 0, nb, .inl b2)), (ap, .inr (4, [.ref aw, .ref pb, .int pos, .int crc]))] s.heap := hP
  have iX3 : ∀ w ∈ wsX30, w ∈ wsX3_bankBytes := by decide +kernel
  have hl := lv_entry ([.ref aj]) (n := 1) (Nat.le_of_ble_eq_true rfl)
  rw [lg_entry_eq]
  generalize (lg_sl ([.ref aj]) ++ List.replicate (1 - (lg_sl ([.ref aj])).length) Slot.unset).toArray = ls at hl ⊢
  have hl : lv_has ls 1 [(0, .ref aj)] := hl
  refine lv_aload_n hx hb dX3_bankBytes_0 rfl (lv_at hl 0 rfl) ?_
  refine va_get (D := D) (ci := 2) (v := .ref k1) (C := RX3) (T := TX3) (N := 6) hx hb hts iX3 hown hK hP 0 rfl rfl 1 (by decide) (hts (.fieldLink RX3 27 "SampleTracker$Journal" "first" "LSampleTracker$Bank;") (by decide +kernel)) (fun _ h9 => h9) rfl dX3_bankBytes_1 ?_
  refine ct_V (As := []) (rest := []) (wr := [(aj, .inr (2, [.ref aw, .ref k1, .ref k2, .ref ap, .int iu, .int en])), (aw, .inr (5, [.int (zb up), .int (zb cw), .int bl, .int wr, .int fa])), (k2, .inr (0, [.ref r2])), (r2, .inl (y 0, nb, .inl b2)), (ap, .inr (4, [.ref aw, .ref pb, .int pos, .int crc]))]) (wn := [(aj, .inr (2, [.ref aw, .ref k1, .ref k2, .ref ap, .int iu, .int en])), (aw, .inr (5, [.int (zb up), .int (zb cw), .int bl, .int wr, .int fa])), (k1, .inr (0, [.ref r1])), (r1, .inl (y 0, nb, .inl b1)), (k2, .inr (0, [.ref r2])), (r2, .inl (y 0, nb, .inl b2)), (ap, .inr (4, [.ref aw, .ref pb, .int pos, .int crc]))]) hfix (cX0_size_ok l D y k1 r1 nb b1) (cwV 0 hts gX3_bankBytes_X0_size rfl rfl rfl (by decide +kernel) ⟨Nat.le_of_ble_eq_true rfl, Nat.le_of_ble_eq_true rfl⟩) E hP hD hS [2, 3] [0, 1, 4, 5, 6] [0, 1, 5, 6, 2, 3, 4] rfl rfl rfl rfl (by decide) rfl rfl 0 0 rfl rfl rfl hl.1 rfl (Nat.le_of_ble_eq_true rfl) dX3_bankBytes_4 ⟨Nat.zero_le _, Nat.zero_le _⟩ (fun H locs hP hD hS => ?_)
  refine W.eq (g2 := F0 m 7 ls [.int (nI nb)]) rfl ?_
  exact W.iret hx hb hr (fun t ht hW => ⟨⟨(), rfl, by rw [ht]; exact hP, hD⟩, hS.F ht⟩) hS.2.2 dX3_bankBytes_7

set_option maxHeartbeats 4000000 in
set_option maxRecDepth 100000 in
theorem cX3_bankInUse_ok (l : Launch) (D : va_G) (y : Nat → ClassId) (aj : Nat) (aw : Nat) (k1 : Nat) (r1 : Nat) (k2 : Nat) (r2 : Nat) (ap : Nat) (up : Bool) (cw : Bool) (bl : Int32) (wr : Int32) (fa : Int32) (pb : Nat) (pos : Int32) (crc : Int32) (nb : Nat) (b1 : Nat → Int32) (b2 : Nat → Int32) (iu : Int32) (en : Int32) : CT l D y yX3_bankInUse wsX3_bankInUse ({ frames := 0, cells := 0, slots := 0, locals := 0 } : Room) [.ref aj] [(aj, .inr (2, [.ref aw, .ref k1, .ref k2, .ref ap, .int iu, .int en])), (aw, .inr (5, [.int (zb up), .int (zb cw), .int bl, .int wr, .int fa])), (k1, .inr (0, [.ref r1])), (r1, .inl (y 0, nb, .inl b1)), (k2, .inr (0, [.ref r2])), (r2, .inl (y 0, nb, .inl b2)), (ap, .inr (4, [.ref aw, .ref pb, .int pos, .int crc]))] (some (.int iu)) [(aj, .inr (2, [.ref aw, .ref k1, .ref k2, .ref ap, .int iu, .int en])), (aw, .inr (5, [.int (zb up), .int (zb cw), .int bl, .int wr, .int fa])), (k1, .inr (0, [.ref r1])), (r1, .inl (y 0, nb, .inl b1)), (k2, .inr (0, [.ref r2])), (r2, .inl (y 0, nb, .inl b2)), (ap, .inr (4, [.ref aw, .ref pb, .int pos, .int crc]))] := by
  intro sz
  refine Met.ofW (cc := cX3_bankInUse) (maxL := 1) (ret := (some .int)) (by decide) rfl ?_
  intro p e s m args below meth c s₁ B hml hv
  obtain ⟨rfl, hsz, hP, hK, hD0, hst, hno⟩ := hv
  have hx := B.exec
  have hb := B.bytes
  have hr := B.returns
  have hts := atoms_spec (ws := wsX3_bankInUse) B.pre
  have hown : s.vm.findClass RX3 = some m.cls := findClass_of_methodNamed B.named
  have hlocks := B.notSynchronized
  subst hsz
  have hD := hD0.self (sz := s.heap.size)
  generalize hAe : va_A [(aj, .inr (2, [.ref aw, .ref k1, .ref k2, .ref ap, .int iu, .int en])), (aw, .inr (5, [.int (zb up), .int (zb cw), .int bl, .int wr, .int fa])), (k1, .inr (0, [.ref r1])), (r1, .inl (y 0, nb, .inl b1)), (k2, .inr (0, [.ref r2])), (r2, .inl (y 0, nb, .inl b2)), (ap, .inr (4, [.ref aw, .ref pb, .int pos, .int crc]))] s.heap.size = A at hD hst ⊢
  have hA : ∀ q : Nat, s.heap.size ≤ q → A q := fun q h => by rw [← hAe]; exact Or.inr h
  have hS : va_S A s.heap s.heap [] := va_S.rf
  have E : Ev D y A s := ⟨hK, hst, hno, hA⟩
  have hfix : CallFix p m c cX3_bankInUse 1 s _ wsX3_bankInUse RX3 := ⟨hx, hb, hml, hown, hts⟩
  have hP : va_P D vwCl [(aj, .inr (2, [.ref aw, .ref k1, .ref k2, .ref ap, .int iu, .int en])), (aw, .inr (5, [.int (zb up), .int (zb cw), .int bl, .int wr, .int fa])), (k1, .inr (0, [.ref r1])), (r1, .inl (y 0, nb, .inl b1)), (k2, .inr (0, [.ref r2])), (r2, .inl (y 0, nb, .inl b2)), (ap, .inr (4, [.ref aw, .ref pb, .int pos, .int crc]))] s.heap := hP
  have iX3 : ∀ w ∈ wsX30, w ∈ wsX3_bankInUse := by decide +kernel
  have hl := lv_entry ([.ref aj]) (n := 1) (Nat.le_of_ble_eq_true rfl)
  rw [lg_entry_eq]
  generalize (lg_sl ([.ref aj]) ++ List.replicate (1 - (lg_sl ([.ref aj])).length) Slot.unset).toArray = ls at hl ⊢
  have hl : lv_has ls 1 [(0, .ref aj)] := hl
  refine lv_aload_n hx hb dX3_bankInUse_0 rfl (lv_at hl 0 rfl) ?_
  refine va_get (D := D) (ci := 2) (v := .int iu) (C := RX3) (T := TX3) (N := 6) hx hb hts iX3 hown hK hP 0 rfl rfl 4 (by decide) (hts (.fieldLink RX3 9 "SampleTracker$Journal" "inUse" "I") (by decide +kernel)) (fun _ h9 => h9) rfl dX3_bankInUse_1 ?_
  exact W.iret hx hb hr (fun t ht hW => ⟨⟨(), rfl, by rw [ht]; exact hP, hD⟩, hS.F ht⟩) hS.2.2 dX3_bankInUse_4

def fX3_generation (nb : Nat) (b1 : Nat → Int32) (b2 : Nat → Int32) (iu : Int32) : Option (Int32) := (if iu = 0 then ((fX0_number nb b1 (0 : Int32) (4 : Int32)).bind fun r_3 => some (r_3.toInt32)) else ((fX0_number nb b2 (0 : Int32) (4 : Int32)).bind fun r_6 => some (r_6.toInt32)))

set_option maxHeartbeats 4000000 in
set_option maxRecDepth 100000 in
theorem cX3_generation_ok (l : Launch) (D : va_G) (y : Nat → ClassId) (aj : Nat) (aw : Nat) (k1 : Nat) (r1 : Nat) (k2 : Nat) (r2 : Nat) (ap : Nat) (up : Bool) (cw : Bool) (bl : Int32) (wr : Int32) (fa : Int32) (pb : Nat) (pos : Int32) (crc : Int32) (nb : Nat) (b1 : Nat → Int32) (b2 : Nat → Int32) (iu : Int32) (en : Int32) (res : Int32) (hf : fX3_generation nb b1 b2 iu = some res) : CT l D y yX3_generation wsX3_generation ({ frames := 2, cells := 0, slots := 0, locals := 46 } : Room) [.ref aj] [(aj, .inr (2, [.ref aw, .ref k1, .ref k2, .ref ap, .int iu, .int en])), (aw, .inr (5, [.int (zb up), .int (zb cw), .int bl, .int wr, .int fa])), (k1, .inr (0, [.ref r1])), (r1, .inl (y 0, nb, .inl b1)), (k2, .inr (0, [.ref r2])), (r2, .inl (y 0, nb, .inl b2)), (ap, .inr (4, [.ref aw, .ref pb, .int pos, .int crc]))] (some (.int res)) [(aj, .inr (2, [.ref aw, .ref k1, .ref k2, .ref ap, .int iu, .int en])), (aw, .inr (5, [.int (zb up), .int (zb cw), .int bl, .int wr, .int fa])), (k1, .inr (0, [.ref r1])), (r1, .inl (y 0, nb, .inl b1)), (k2, .inr (0, [.ref r2])), (r2, .inl (y 0, nb, .inl b2)), (ap, .inr (4, [.ref aw, .ref pb, .int pos, .int crc]))] := by
  intro sz
  refine Met.ofW (cc := cX3_generation) (maxL := 1) (ret := (some .int)) (by decide) rfl ?_
  intro p e s m args below meth c s₁ B hml hv
  obtain ⟨rfl, hsz, hP, hK, hD0, hst, hno⟩ := hv
  have hx := B.exec
  have hb := B.bytes
  have hr := B.returns
  have hts := atoms_spec (ws := wsX3_generation) B.pre
  have hown : s.vm.findClass RX3 = some m.cls := findClass_of_methodNamed B.named
  have hlocks := B.notSynchronized
  subst hsz
  have hD := hD0.self (sz := s.heap.size)
  generalize hAe : va_A [(aj, .inr (2, [.ref aw, .ref k1, .ref k2, .ref ap, .int iu, .int en])), (aw, .inr (5, [.int (zb up), .int (zb cw), .int bl, .int wr, .int fa])), (k1, .inr (0, [.ref r1])), (r1, .inl (y 0, nb, .inl b1)), (k2, .inr (0, [.ref r2])), (r2, .inl (y 0, nb, .inl b2)), (ap, .inr (4, [.ref aw, .ref pb, .int pos, .int crc]))] s.heap.size = A at hD hst ⊢
  have hA : ∀ q : Nat, s.heap.size ≤ q → A q := fun q h => by rw [← hAe]; exact Or.inr h
  have hS : va_S A s.heap s.heap [] := va_S.rf
  have E : Ev D y A s := ⟨hK, hst, hno, hA⟩
  have hfix : CallFix p m c cX3_generation 1 s _ wsX3_generation RX3 := ⟨hx, hb, hml, hown, hts⟩
  have hP : va_P D vwCl [(aj, .inr (2, [.ref aw, .ref k1, .ref k2, .ref ap, .int iu, .int en])), (aw, .inr (5, [.int (zb up), .int (zb cw), .int bl, .int wr, .int fa])), (k1, .inr (0, [.ref r1])), (r1, .inl (y 0, nb, .inl b1)), (k2, .inr (0, [.ref r2])), (r2, .inl (y 0, nb, .inl b2)), (ap, .inr (4, [.ref aw, .ref pb, .int pos, .int crc]))] s.heap := hP
  have iX3 : ∀ w ∈ wsX30, w ∈ wsX3_generation := by decide +kernel
  have hl := lv_entry ([.ref aj]) (n := 1) (Nat.le_of_ble_eq_true rfl)
  rw [lg_entry_eq]
  generalize (lg_sl ([.ref aj]) ++ List.replicate (1 - (lg_sl ([.ref aj])).length) Slot.unset).toArray = ls at hl ⊢
  have hl : lv_has ls 1 [(0, .ref aj)] := hl
  unfold fX3_generation at hf
  refine lv_aload_n hx hb dX3_generation_0 rfl (lv_at hl 0 rfl) ?_
  refine lv_aload_n hx hb dX3_generation_1 rfl (lv_at hl 0 rfl) ?_
  refine va_get (D := D) (ci := 2) (v := .int iu) (C := RX3) (T := TX3) (N := 6) hx hb hts iX3 hown hK hP 0 rfl rfl 4 (by decide) (hts (.fieldLink RX3 9 "SampleTracker$Journal" "inUse" "I") (by decide +kernel)) (fun _ h9 => h9) rfl dX3_generation_2 ?_
  by_cases c_1 : iu = 0
  · have hf := ifp hf c_1
    refine ct_V (As := [.int iu]) (rest := []) (wr := []) (wn := [(aj, .inr (2, [.ref aw, .ref k1, .ref k2, .ref ap, .int iu, .int en])), (aw, .inr (5, [.int (zb up), .int (zb cw), .int bl, .int wr, .int fa])), (k1, .inr (0, [.ref r1])), (r1, .inl (y 0, nb, .inl b1)), (k2, .inr (0, [.ref r2])), (r2, .inl (y 0, nb, .inl b2)), (ap, .inr (4, [.ref aw, .ref pb, .int pos, .int crc]))]) hfix (cX3_bank_1_ok l D y aj aw k1 r1 k2 r2 ap up cw bl wr fa pb pos crc nb b1 b2 iu en iu c_1) (cwV 1 hts gX3_generation_X3_bank rfl rfl rfl (by decide +kernel) ⟨Nat.le_of_ble_eq_true rfl, Nat.le_of_ble_eq_true rfl⟩) E hP hD hS [0, 1, 2, 3, 4, 5, 6] [] [0, 1, 2, 3, 4, 5, 6] rfl rfl rfl rfl (by decide) rfl rfl 0 2 rfl rfl rfl hl.1 rfl (Nat.le_of_ble_eq_true rfl) dX3_generation_5 ⟨Nat.zero_le _, Nat.zero_le _⟩ (fun H locs hP hD hS => ?_)
    refine W.eq (g2 := F0 m 8 ls [.ref k1]) rfl ?_
    refine lv_iconst (v := (0 : Int32)) hx hb dX3_generation_8 (by decide) ?_
    refine lv_iconst (v := (4 : Int32)) hx hb dX3_generation_9 (by decide) ?_
    obtain ⟨r_3, hc_4, hf⟩ := obd hf
    refine ct_V (As := [.int (0 : Int32), .int (4 : Int32)]) (rest := []) (wr := [(aj, .inr (2, [.ref aw, .ref k1, .ref k2, .ref ap, .int iu, .int en])), (aw, .inr (5, [.int (zb up), .int (zb cw), .int bl, .int wr, .int fa])), (k2, .inr (0, [.ref r2])), (r2, .inl (y 0, nb, .inl b2)), (ap, .inr (4, [.ref aw, .ref pb, .int pos, .int crc]))]) (wn := [(aj, .inr (2, [.ref aw, .ref k1, .ref k2, .ref ap, .int iu, .int en])), (aw, .inr (5, [.int (zb up), .int (zb cw), .int bl, .int wr, .int fa])), (k1, .inr (0, [.ref r1])), (r1, .inl (y 0, nb, .inl b1)), (k2, .inr (0, [.ref r2])), (r2, .inl (y 0, nb, .inl b2)), (ap, .inr (4, [.ref aw, .ref pb, .int pos, .int crc]))]) hfix (cX0_number_ok l D y k1 r1 nb b1 (0 : Int32) (4 : Int32) _ hc_4) (cwV 2 hts gX3_generation_X0_number rfl rfl rfl (by decide +kernel) ⟨Nat.le_of_ble_eq_true rfl, Nat.le_of_ble_eq_true rfl⟩) E hP hD hS [2, 3] [0, 1, 4, 5, 6] [0, 1, 5, 6, 2, 3, 4] rfl rfl rfl rfl (by decide) rfl rfl 0 0 rfl rfl rfl hl.1 rfl (Nat.le_of_ble_eq_true rfl) dX3_generation_10 ⟨Nat.zero_le _, Nat.zero_le _⟩ (fun H locs hP hD hS => ?_)
    refine W.eq (g2 := F0 m 13 ls [.long r_3]) rfl ?_
    refine lv_l2i (v := (r_3.toInt32)) hx hb dX3_generation_13 rfl ?_
    obtain rfl := Option.some.inj hf
    exact W.iret hx hb hr (fun t ht hW => ⟨⟨(), rfl, by rw [ht]; exact hP, hD⟩, hS.F ht⟩) hS.2.2 dX3_generation_14
  · have hf := ifn hf c_1
    refine ct_V (As := [.int iu]) (rest := []) (wr := []) (wn := [(aj, .inr (2, [.ref aw, .ref k1, .ref k2, .ref ap, .int iu, .int en])), (aw, .inr (5, [.int (zb up), .int (zb cw), .int bl, .int wr, .int fa])), (k1, .inr (0, [.ref r1])), (r1, .inl (y 0, nb, .inl b1)), (k2, .inr (0, [.ref r2])), (r2, .inl (y 0, nb, .inl b2)), (ap, .inr (4, [.ref aw, .ref pb, .int pos, .int crc]))]) hfix (cX3_bank_2_ok l D y aj aw k1 r1 k2 r2 ap up cw bl wr fa pb pos crc nb b1 b2 iu en iu c_1) (cwV 1 hts gX3_generation_X3_bank rfl rfl rfl (by decide +kernel) ⟨Nat.le_of_ble_eq_true rfl, Nat.le_of_ble_eq_true rfl⟩) E hP hD hS [0, 1, 2, 3, 4, 5, 6] [] [0, 1, 2, 3, 4, 5, 6] rfl rfl rfl rfl (by decide) rfl rfl 0 2 rfl rfl rfl hl.1 rfl (Nat.le_of_ble_eq_true rfl) dX3_generation_5 ⟨Nat.zero_le _, Nat.zero_le _⟩ (fun H locs hP hD hS => ?_)
    refine W.eq (g2 := F0 m 8 ls [.ref k2]) rfl ?_
    refine lv_iconst (v := (0 : Int32)) hx hb dX3_generation_8 (by decide) ?_
    refine lv_iconst (v := (4 : Int32)) hx hb dX3_generation_9 (by decide) ?_
    obtain ⟨r_6, hc_7, hf⟩ := obd hf
    refine ct_V (As := [.int (0 : Int32), .int (4 : Int32)]) (rest := []) (wr := [(aj, .inr (2, [.ref aw, .ref k1, .ref k2, .ref ap, .int iu, .int en])), (aw, .inr (5, [.int (zb up), .int (zb cw), .int bl, .int wr, .int fa])), (k1, .inr (0, [.ref r1])), (r1, .inl (y 0, nb, .inl b1)), (ap, .inr (4, [.ref aw, .ref pb, .int pos, .int crc]))]) (wn := [(aj, .inr (2, [.ref aw, .ref k1, .ref k2, .ref ap, .int iu, .int en])), (aw, .inr (5, [.int (zb up), .int (zb cw), .int bl, .int wr, .int fa])), (k1, .inr (0, [.ref r1])), (r1, .inl (y 0, nb, .inl b1)), (k2, .inr (0, [.ref r2])), (r2, .inl (y 0, nb, .inl b2)), (ap, .inr (4, [.ref aw, .ref pb, .int pos, .int crc]))]) hfix (cX0_number_ok l D y k2 r2 nb b2 (0 : Int32) (4 : Int32) _ hc_7) (cwV 2 hts gX3_generation_X0_number rfl rfl rfl (by decide +kernel) ⟨Nat.le_of_ble_eq_true rfl, Nat.le_of_ble_eq_true rfl⟩) E hP hD hS [4, 5] [0, 1, 2, 3, 6] [0, 1, 2, 3, 5, 6, 4] rfl rfl rfl rfl (by decide) rfl rfl 0 0 rfl rfl rfl hl.1 rfl (Nat.le_of_ble_eq_true rfl) dX3_generation_10 ⟨Nat.zero_le _, Nat.zero_le _⟩ (fun H locs hP hD hS => ?_)
    refine W.eq (g2 := F0 m 13 ls [.long r_6]) rfl ?_
    refine lv_l2i (v := (r_6.toInt32)) hx hb dX3_generation_13 rfl ?_
    obtain rfl := Option.some.inj hf
    exact W.iret hx hb hr (fun t ht hW => ⟨⟨(), rfl, by rw [ht]; exact hP, hD⟩, hS.F ht⟩) hS.2.2 dX3_generation_14

set_option maxHeartbeats 4000000 in
set_option maxRecDepth 100000 in
theorem cX3_end_ok (l : Launch) (D : va_G) (y : Nat → ClassId) (aj : Nat) (aw : Nat) (k1 : Nat) (r1 : Nat) (k2 : Nat) (r2 : Nat) (ap : Nat) (up : Bool) (cw : Bool) (bl : Int32) (wr : Int32) (fa : Int32) (pb : Nat) (pos : Int32) (crc : Int32) (nb : Nat) (b1 : Nat → Int32) (b2 : Nat → Int32) (iu : Int32) (en : Int32) : CT l D y yX3_end wsX3_end ({ frames := 0, cells := 0, slots := 0, locals := 0 } : Room) [.ref aj] [(aj, .inr (2, [.ref aw, .ref k1, .ref k2, .ref ap, .int iu, .int en])), (aw, .inr (5, [.int (zb up), .int (zb cw), .int bl, .int wr, .int fa])), (k1, .inr (0, [.ref r1])), (r1, .inl (y 0, nb, .inl b1)), (k2, .inr (0, [.ref r2])), (r2, .inl (y 0, nb, .inl b2)), (ap, .inr (4, [.ref aw, .ref pb, .int pos, .int crc]))] (some (.int en)) [(aj, .inr (2, [.ref aw, .ref k1, .ref k2, .ref ap, .int iu, .int en])), (aw, .inr (5, [.int (zb up), .int (zb cw), .int bl, .int wr, .int fa])), (k1, .inr (0, [.ref r1])), (r1, .inl (y 0, nb, .inl b1)), (k2, .inr (0, [.ref r2])), (r2, .inl (y 0, nb, .inl b2)), (ap, .inr (4, [.ref aw, .ref pb, .int pos, .int crc]))] := by
  intro sz
  refine Met.ofW (cc := cX3_end) (maxL := 1) (ret := (some .int)) (by decide) rfl ?_
  intro p e s m args below meth c s₁ B hml hv
  obtain ⟨rfl, hsz, hP, hK, hD0, hst, hno⟩ := hv
  have hx := B.exec
  have hb := B.bytes
  have hr := B.returns
  have hts := atoms_spec (ws := wsX3_end) B.pre
  have hown : s.vm.findClass RX3 = some m.cls := findClass_of_methodNamed B.named
  have hlocks := B.notSynchronized
  subst hsz
  have hD := hD0.self (sz := s.heap.size)
  generalize hAe : va_A [(aj, .inr (2, [.ref aw, .ref k1, .ref k2, .ref ap, .int iu, .int en])), (aw, .inr (5, [.int (zb up), .int (zb cw), .int bl, .int wr, .int fa])), (k1, .inr (0, [.ref r1])), (r1, .inl (y 0, nb, .inl b1)), (k2, .inr (0, [.ref r2])), (r2, .inl (y 0, nb, .inl b2)), (ap, .inr (4, [.ref aw, .ref pb, .int pos, .int crc]))] s.heap.size = A at hD hst ⊢
  have hA : ∀ q : Nat, s.heap.size ≤ q → A q := fun q h => by rw [← hAe]; exact Or.inr h
  have hS : va_S A s.heap s.heap [] := va_S.rf
  have E : Ev D y A s := ⟨hK, hst, hno, hA⟩
  have hfix : CallFix p m c cX3_end 1 s _ wsX3_end RX3 := ⟨hx, hb, hml, hown, hts⟩
  have hP : va_P D vwCl [(aj, .inr (2, [.ref aw, .ref k1, .ref k2, .ref ap, .int iu, .int en])), (aw, .inr (5, [.int (zb up), .int (zb cw), .int bl, .int wr, .int fa])), (k1, .inr (0, [.ref r1])), (r1, .inl (y 0, nb, .inl b1)), (k2, .inr (0, [.ref r2])), (r2, .inl (y 0, nb, .inl b2)), (ap, .inr (4, [.ref aw, .ref pb, .int pos, .int crc]))] s.heap := hP
  have iX3 : ∀ w ∈ wsX30, w ∈ wsX3_end := by decide +kernel
  have hl := lv_entry ([.ref aj]) (n := 1) (Nat.le_of_ble_eq_true rfl)
  rw [lg_entry_eq]
  generalize (lg_sl ([.ref aj]) ++ List.replicate (1 - (lg_sl ([.ref aj])).length) Slot.unset).toArray = ls at hl ⊢
  have hl : lv_has ls 1 [(0, .ref aj)] := hl
  refine lv_aload_n hx hb dX3_end_0 rfl (lv_at hl 0 rfl) ?_
  refine va_get (D := D) (ci := 2) (v := .int en) (C := RX3) (T := TX3) (N := 6) hx hb hts iX3 hown hK hP 0 rfl rfl 5 (by decide) (hts (.fieldLink RX3 15 "SampleTracker$Journal" "end" "I") (by decide +kernel)) (fun _ h9 => h9) rfl dX3_end_1 ?_
  exact W.iret hx hb hr (fun t ht hW => ⟨⟨(), rfl, by rw [ht]; exact hP, hD⟩, hS.F ht⟩) hS.2.2 dX3_end_4

def fX3_hasRoomFor (nb : Nat) (en : Int32) (ek : Int32) : Option (Bool) := ((fX2_length ek).bind fun r_1 => (if ((nI nb) - en) < r_1 then some false else some true))

set_option maxHeartbeats 4000000 in
set_option maxRecDepth 100000 in
theorem cX3_hasRoomFor_ok (l : Launch) (D : va_G) (y : Nat → ClassId) (aj : Nat) (aw : Nat) (k1 : Nat) (r1 : Nat) (k2 : Nat) (r2 : Nat) (ap : Nat) (ae : Nat) (up : Bool) (cw : Bool) (bl : Int32) (wr : Int32) (fa : Int32) (pb : Nat) (pos : Int32) (crc : Int32) (nb : Nat) (b1 : Nat → Int32) (b2 : Nat → Int32) (iu : Int32) (en : Int32) (ek : Int32) (es : Int32) (ew : Int32) (ev : Int64) (res : Bool) (hf : fX3_hasRoomFor nb en ek = some res) : CT l D y yX3_hasRoomFor wsX3_hasRoomFor ({ frames := 2, cells := 0, slots := 0, locals := 40 } : Room) [.ref aj, .ref ae] [(aj, .inr (2, [.ref aw, .ref k1, .ref k2, .ref ap, .int iu, .int en])), (aw, .inr (5, [.int (zb up), .int (zb cw), .int bl, .int wr, .int fa])), (k1, .inr (0, [.ref r1])), (r1, .inl (y 0, nb, .inl b1)), (k2, .inr (0, [.ref r2])), (r2, .inl (y 0, nb, .inl b2)), (ap, .inr (4, [.ref aw, .ref pb, .int pos, .int crc])), (ae, .inr (1, [.int ek, .int es, .int ew, .long ev]))] (some (.int (zb res))) [(aj, .inr (2, [.ref aw, .ref k1, .ref k2, .ref ap, .int iu, .int en])), (aw, .inr (5, [.int (zb up), .int (zb cw), .int bl, .int wr, .int fa])), (k1, .inr (0, [.ref r1])), (r1, .inl (y 0, nb, .inl b1)), (k2, .inr (0, [.ref r2])), (r2, .inl (y 0, nb, .inl b2)), (ap, .inr (4, [.ref aw, .ref pb, .int pos, .int crc])), (ae, .inr (1, [.int ek, .int es, .int ew, .long ev]))] := by
  intro sz
  refine Met.ofW (cc := cX3_hasRoomFor) (maxL := 2) (ret := (some .boolean)) (by decide) rfl ?_
  intro p e s m args below meth c s₁ B hml hv
  obtain ⟨rfl, hsz, hP, hK, hD0, hst, hno⟩ := hv
  have hx := B.exec
  have hb := B.bytes
  have hr := B.returns
  have hts := atoms_spec (ws := wsX3_hasRoomFor) B.pre
  have hown : s.vm.findClass RX3 = some m.cls := findClass_of_methodNamed B.named
  have hlocks := B.notSynchronized
  subst hsz
  have hD := hD0.self (sz := s.heap.size)
  generalize hAe : va_A [(aj, .inr (2, [.ref aw, .ref k1, .ref k2, .ref ap, .int iu, .int en])), (aw, .inr (5, [.int (zb up), .int (zb cw), .int bl, .int wr, .int fa])), (k1, .inr (0, [.ref r1])), (r1, .inl (y 0, nb, .inl b1)), (k2, .inr (0, [.ref r2])), (r2, .inl (y 0, nb, .inl b2)), (ap, .inr (4, [.ref aw, .ref pb, .int pos, .int crc])), (ae, .inr (1, [.int ek, .int es, .int ew, .long ev]))] s.heap.size = A at hD hst ⊢
  have hA : ∀ q : Nat, s.heap.size ≤ q → A q := fun q h => by rw [← hAe]; exact Or.inr h
  have hS : va_S A s.heap s.heap [] := va_S.rf
  have E : Ev D y A s := ⟨hK, hst, hno, hA⟩
  have hfix : CallFix p m c cX3_hasRoomFor 2 s _ wsX3_hasRoomFor RX3 := ⟨hx, hb, hml, hown, hts⟩
  have hP : va_P D vwCl [(aj, .inr (2, [.ref aw, .ref k1, .ref k2, .ref ap, .int iu, .int en])), (aw, .inr (5, [.int (zb up), .int (zb cw), .int bl, .int wr, .int fa])), (k1, .inr (0, [.ref r1])), (r1, .inl (y 0, nb, .inl b1)), (k2, .inr (0, [.ref r2])), (r2, .inl (y 0, nb, .inl b2)), (ap, .inr (4, [.ref aw, .ref pb, .int pos, .int crc])), (ae, .inr (1, [.int ek, .int es, .int ew, .long ev]))] s.heap := hP
  have iX3 : ∀ w ∈ wsX30, w ∈ wsX3_hasRoomFor := by decide +kernel
  have hl := lv_entry ([.ref aj, .ref ae]) (n := 2) (Nat.le_of_ble_eq_true rfl)
  rw [lg_entry_eq]
  generalize (lg_sl ([.ref aj, .ref ae]) ++ List.replicate (2 - (lg_sl ([.ref aj, .ref ae])).length) Slot.unset).toArray = ls at hl ⊢
  have hl : lv_has ls 2 [(0, .ref aj), (1, .ref ae)] := hl
  unfold fX3_hasRoomFor at hf
  refine lv_aload_n hx hb dX3_hasRoomFor_0 rfl (lv_at hl 1 rfl) ?_
  obtain ⟨r_1, hc_2, hf⟩ := obd hf
  refine ct_V (As := []) (rest := []) (wr := [(aj, .inr (2, [.ref aw, .ref k1, .ref k2, .ref ap, .int iu, .int en])), (aw, .inr (5, [.int (zb up), .int (zb cw), .int bl, .int wr, .int fa])), (k1, .inr (0, [.ref r1])), (r1, .inl (y 0, nb, .inl b1)), (k2, .inr (0, [.ref r2])), (r2, .inl (y 0, nb, .inl b2)), (ap, .inr (4, [.ref aw, .ref pb, .int pos, .int crc]))]) (wn := [(aj, .inr (2, [.ref aw, .ref k1, .ref k2, .ref ap, .int iu, .int en])), (aw, .inr (5, [.int (zb up), .int (zb cw), .int bl, .int wr, .int fa])), (k1, .inr (0, [.ref r1])), (r1, .inl (y 0, nb, .inl b1)), (k2, .inr (0, [.ref r2])), (r2, .inl (y 0, nb, .inl b2)), (ap, .inr (4, [.ref aw, .ref pb, .int pos, .int crc])), (ae, .inr (1, [.int ek, .int es, .int ew, .long ev]))]) hfix (cX2_length_ok l D y ae ek es ew ev _ hc_2) (cwV 0 hts gX3_hasRoomFor_X2_length rfl rfl rfl (by decide +kernel) ⟨Nat.le_of_ble_eq_true rfl, Nat.le_of_ble_eq_true rfl⟩) E hP hD hS [7] [0, 1, 2, 3, 4, 5, 6] [0, 1, 2, 3, 4, 5, 6, 7] rfl rfl rfl rfl (by decide) rfl rfl 0 1 rfl rfl rfl hl.1 rfl (Nat.le_of_ble_eq_true rfl) dX3_hasRoomFor_1 ⟨Nat.zero_le _, Nat.zero_le _⟩ (fun H locs hP hD hS => ?_)
  refine W.eq (g2 := F0 m 4 ls [.int r_1]) rfl ?_
  refine lv_aload_n hx hb dX3_hasRoomFor_4 rfl (lv_at hl 0 rfl) ?_
  refine ct_V (As := []) (rest := [.int r_1]) (wr := [(ae, .inr (1, [.int ek, .int es, .int ew, .long ev]))]) (wn := [(aj, .inr (2, [.ref aw, .ref k1, .ref k2, .ref ap, .int iu, .int en])), (aw, .inr (5, [.int (zb up), .int (zb cw), .int bl, .int wr, .int fa])), (k1, .inr (0, [.ref r1])), (r1, .inl (y 0, nb, .inl b1)), (k2, .inr (0, [.ref r2])), (r2, .inl (y 0, nb, .inl b2)), (ap, .inr (4, [.ref aw, .ref pb, .int pos, .int crc])), (ae, .inr (1, [.int ek, .int es, .int ew, .long ev]))]) hfix (cX3_bankBytes_ok l D y aj aw k1 r1 k2 r2 ap up cw bl wr fa pb pos crc nb b1 b2 iu en) (cwV 0 hts gX3_hasRoomFor_X3_bankBytes rfl rfl rfl (by decide +kernel) ⟨Nat.le_of_ble_eq_true rfl, Nat.le_of_ble_eq_true rfl⟩) E hP hD hS [0, 1, 2, 3, 4, 5, 6] [7] [1, 2, 3, 4, 5, 6, 7, 0] rfl rfl rfl rfl (by decide) rfl rfl 0 2 rfl rfl rfl hl.1 rfl (Nat.le_of_ble_eq_true rfl) dX3_hasRoomFor_5 ⟨Nat.zero_le _, Nat.zero_le _⟩ (fun H locs hP hD hS => ?_)
  refine W.eq (g2 := F0 m 8 ls [.int (nI nb), .int r_1]) rfl ?_
  refine lv_aload_n hx hb dX3_hasRoomFor_8 rfl (lv_at hl 0 rfl) ?_
  refine va_get (D := D) (ci := 2) (v := .int en) (C := RX3) (T := TX3) (N := 6) hx hb hts iX3 hown hK hP 0 rfl rfl 5 (by decide) (hts (.fieldLink RX3 15 "SampleTracker$Journal" "end" "I") (by decide +kernel)) (fun _ h9 => h9) rfl dX3_hasRoomFor_9 ?_
  refine lv_isub hx hb dX3_hasRoomFor_12 ?_
  refine lv_icmp_gt (tgt := 20) hx hb dX3_hasRoomFor_13 (by decide) (fun c_4 => ?_) (fun c_4 => ?_)
  · have hf := ifp hf c_4
    refine lv_iconst (v := (0 : Int32)) hx hb dX3_hasRoomFor_20 (by decide) ?_
    obtain rfl := Option.some.inj hf
    exact W.zret (ty := .boolean) hx hb hr rfl (fun t ht hW => ⟨⟨(), rfl, by rw [ht]; exact hP, hD⟩, hS.F ht⟩) hS.2.2 dX3_hasRoomFor_21
  · have hf := ifn hf c_4
    refine lv_iconst (v := (1 : Int32)) hx hb dX3_hasRoomFor_16 (by decide) ?_
    refine lv_goto (tgt := 21) hx hb dX3_hasRoomFor_17 (by decide) ?_
    obtain rfl := Option.some.inj hf
    exact W.zret (ty := .boolean) hx hb hr rfl (fun t ht hW => ⟨⟨(), rfl, by rw [ht]; exact hP, hD⟩, hS.F ht⟩) hS.2.2 dX3_hasRoomFor_21

def fX3_append (k1 : Nat) (k2 : Nat) (up : Bool) (cw : Bool) (bl : Int32) (wr : Int32) (fa : Int32) (nb : Nat) (b1 : Nat → Int32) (b2 : Nat → Int32) (iu : Int32) (en : Int32) (ek : Int32) (es : Int32) (ew : Int32) (ev : Int64) : Option (Bool × Bool × Bool × Int32 × Int32 × Int32 × Nat × Int32 × Int32 × (Nat → Int32) × (Nat → Int32) × Int32) := (if iu = 0 then ((fX5_writeRecord up cw bl wr fa en nb b1 ek es ew ev).bind fun (o_up_4, o_cw_5, o_bl_6, o_wr_7, o_fa_8, o_pos_9, o_crc_10, o_bb_11) => (if (zb o_up_4) = 0 then some (false, o_up_4, o_cw_5, o_bl_6, o_wr_7, o_fa_8, k1, o_pos_9, o_crc_10, o_bb_11, b2, en) else some (true, o_up_4, o_cw_5, o_bl_6, o_wr_7, o_fa_8, k1, o_pos_9, o_crc_10, o_bb_11, b2, o_pos_9))) else ((fX5_writeRecord up cw bl wr fa en nb b2 ek es ew ev).bind fun (o_up_18, o_cw_19, o_bl_20, o_wr_21, o_fa_22, o_pos_23, o_crc_24, o_bb_25) => (if (zb o_up_18) = 0 then some (false, o_up_18, o_cw_19, o_bl_20, o_wr_21, o_fa_22, k2, o_pos_23, o_crc_24, b1, o_bb_25, en) else some (true, o_up_18, o_cw_19, o_bl_20, o_wr_21, o_fa_22, k2, o_pos_23, o_crc_24, b1, o_bb_25, o_pos_23))))

set_option maxHeartbeats 4000000 in
set_option maxRecDepth 100000 in
theorem cX3_append_ok (l : Launch) (D : va_G) (y : Nat → ClassId) (aj : Nat) (aw : Nat) (k1 : Nat) (r1 : Nat) (k2 : Nat) (r2 : Nat) (ap : Nat) (ae : Nat) (up : Bool) (cw : Bool) (bl : Int32) (wr : Int32) (fa : Int32) (pb : Nat) (pos : Int32) (crc : Int32) (nb : Nat) (b1 : Nat → Int32) (b2 : Nat → Int32) (iu : Int32) (en : Int32) (ek : Int32) (es : Int32) (ew : Int32) (ev : Int64) (res : Bool × Bool × Bool × Int32 × Int32 × Int32 × Nat × Int32 × Int32 × (Nat → Int32) × (Nat → Int32) × Int32) (hf : fX3_append k1 k2 up cw bl wr fa nb b1 b2 iu en ek es ew ev = some res) : CT l D y yX3_append wsX3_append ({ frames := 4, cells := 0, slots := 0, locals := 89 } : Room) [.ref aj, .ref ae] [(aj, .inr (2, [.ref aw, .ref k1, .ref k2, .ref ap, .int iu, .int en])), (aw, .inr (5, [.int (zb up), .int (zb cw), .int bl, .int wr, .int fa])), (k1, .inr (0, [.ref r1])), (r1, .inl (y 0, nb, .inl b1)), (k2, .inr (0, [.ref r2])), (r2, .inl (y 0, nb, .inl b2)), (ap, .inr (4, [.ref aw, .ref pb, .int pos, .int crc])), (ae, .inr (1, [.int ek, .int es, .int ew, .long ev]))] (some (.int (zb res.1))) [(aj, .inr (2, [.ref aw, .ref k1, .ref k2, .ref ap, .int iu, .int res.2.2.2.2.2.2.2.2.2.2.2])), (aw, .inr (5, [.int (zb res.2.1), .int (zb res.2.2.1), .int res.2.2.2.1, .int res.2.2.2.2.1, .int res.2.2.2.2.2.1])), (k1, .inr (0, [.ref r1])), (r1, .inl (y 0, nb, .inl res.2.2.2.2.2.2.2.2.2.1)), (k2, .inr (0, [.ref r2])), (r2, .inl (y 0, nb, .inl res.2.2.2.2.2.2.2.2.2.2.1)), (ap, .inr (4, [.ref aw, .ref res.2.2.2.2.2.2.1, .int res.2.2.2.2.2.2.2.1, .int res.2.2.2.2.2.2.2.2.1])), (ae, .inr (1, [.int ek, .int es, .int ew, .long ev]))] := by
  intro sz
  refine Met.ofW (cc := cX3_append) (maxL := 2) (ret := (some .boolean)) (by decide) rfl ?_
  intro p e s m args below meth c s₁ B hml hv
  obtain ⟨rfl, hsz, hP, hK, hD0, hst, hno⟩ := hv
  have hx := B.exec
  have hb := B.bytes
  have hr := B.returns
  have hts := atoms_spec (ws := wsX3_append) B.pre
  have hown : s.vm.findClass RX3 = some m.cls := findClass_of_methodNamed B.named
  have hlocks := B.notSynchronized
  subst hsz
  have hD := hD0.self (sz := s.heap.size)
  generalize hAe : va_A [(aj, .inr (2, [.ref aw, .ref k1, .ref k2, .ref ap, .int iu, .int en])), (aw, .inr (5, [.int (zb up), .int (zb cw), .int bl, .int wr, .int fa])), (k1, .inr (0, [.ref r1])), (r1, .inl (y 0, nb, .inl b1)), (k2, .inr (0, [.ref r2])), (r2, .inl (y 0, nb, .inl b2)), (ap, .inr (4, [.ref aw, .ref pb, .int pos, .int crc])), (ae, .inr (1, [.int ek, .int es, .int ew, .long ev]))] s.heap.size = A at hD hst ⊢
  have hA : ∀ q : Nat, s.heap.size ≤ q → A q := fun q h => by rw [← hAe]; exact Or.inr h
  have hS : va_S A s.heap s.heap [] := va_S.rf
  have E : Ev D y A s := ⟨hK, hst, hno, hA⟩
  have hfix : CallFix p m c cX3_append 2 s _ wsX3_append RX3 := ⟨hx, hb, hml, hown, hts⟩
  have hP : va_P D vwCl [(aj, .inr (2, [.ref aw, .ref k1, .ref k2, .ref ap, .int iu, .int en])), (aw, .inr (5, [.int (zb up), .int (zb cw), .int bl, .int wr, .int fa])), (k1, .inr (0, [.ref r1])), (r1, .inl (y 0, nb, .inl b1)), (k2, .inr (0, [.ref r2])), (r2, .inl (y 0, nb, .inl b2)), (ap, .inr (4, [.ref aw, .ref pb, .int pos, .int crc])), (ae, .inr (1, [.int ek, .int es, .int ew, .long ev]))] s.heap := hP
  have iX3 : ∀ w ∈ wsX30, w ∈ wsX3_append := by decide +kernel
  have hl := lv_entry ([.ref aj, .ref ae]) (n := 2) (Nat.le_of_ble_eq_true rfl)
  rw [lg_entry_eq]
  generalize (lg_sl ([.ref aj, .ref ae]) ++ List.replicate (2 - (lg_sl ([.ref aj, .ref ae])).length) Slot.unset).toArray = ls at hl ⊢
  have hl : lv_has ls 2 [(0, .ref aj), (1, .ref ae)] := hl
  unfold fX3_append at hf
  refine lv_aload_n hx hb dX3_append_0 rfl (lv_at hl 0 rfl) ?_
  refine va_get (D := D) (ci := 2) (v := .ref ap) (C := RX3) (T := TX3) (N := 6) hx hb hts iX3 hown hK hP 0 rfl rfl 3 (by decide) (hts (.fieldLink RX3 39 "SampleTracker$Journal" "pen" "LSampleTracker$Pen;") (by decide +kernel)) (fun _ h9 => h9) rfl dX3_append_1 ?_
  refine lv_aload_n hx hb dX3_append_4 rfl (lv_at hl 0 rfl) ?_
  refine lv_aload_n hx hb dX3_append_5 rfl (lv_at hl 0 rfl) ?_
  refine va_get (D := D) (ci := 2) (v := .int iu) (C := RX3) (T := TX3) (N := 6) hx hb hts iX3 hown hK hP 0 rfl rfl 4 (by decide) (hts (.fieldLink RX3 9 "SampleTracker$Journal" "inUse" "I") (by decide +kernel)) (fun _ h9 => h9) rfl dX3_append_6 ?_
  by_cases c_1 : iu = 0
  · have hf := ifp hf c_1
    refine ct_V (As := [.int iu]) (rest := [.ref ap]) (wr := [(ae, .inr (1, [.int ek, .int es, .int ew, .long ev]))]) (wn := [(aj, .inr (2, [.ref aw, .ref k1, .ref k2, .ref ap, .int iu, .int en])), (aw, .inr (5, [.int (zb up), .int (zb cw), .int bl, .int wr, .int fa])), (k1, .inr (0, [.ref r1])), (r1, .inl (y 0, nb, .inl b1)), (k2, .inr (0, [.ref r2])), (r2, .inl (y 0, nb, .inl b2)), (ap, .inr (4, [.ref aw, .ref pb, .int pos, .int crc])), (ae, .inr (1, [.int ek, .int es, .int ew, .long ev]))]) hfix (cX3_bank_1_ok l D y aj aw k1 r1 k2 r2 ap up cw bl wr fa pb pos crc nb b1 b2 iu en iu c_1) (cwV 1 hts gX3_append_X3_bank rfl rfl rfl (by decide +kernel) ⟨Nat.le_of_ble_eq_true rfl, Nat.le_of_ble_eq_true rfl⟩) E hP hD hS [0, 1, 2, 3, 4, 5, 6] [7] [1, 2, 3, 4, 5, 6, 7, 0] rfl rfl rfl rfl (by decide) rfl rfl 0 2 rfl rfl rfl hl.1 rfl (Nat.le_of_ble_eq_true rfl) dX3_append_9 ⟨Nat.zero_le _, Nat.zero_le _⟩ (fun H locs hP hD hS => ?_)
    refine W.eq (g2 := F0 m 12 ls [.ref k1, .ref ap]) rfl ?_
    refine lv_aload_n hx hb dX3_append_12 rfl (lv_at hl 0 rfl) ?_
    refine va_get (D := D) (ci := 2) (v := .int en) (C := RX3) (T := TX3) (N := 6) hx hb hts iX3 hown hK hP 0 rfl rfl 5 (by decide) (hts (.fieldLink RX3 15 "SampleTracker$Journal" "end" "I") (by decide +kernel)) (fun _ h9 => h9) rfl dX3_append_13 ?_
    refine ct_V (As := [.ref k1, .int en]) (rest := []) (wr := [(aj, .inr (2, [.ref aw, .ref k1, .ref k2, .ref ap, .int iu, .int en])), (aw, .inr (5, [.int (zb up), .int (zb cw), .int bl, .int wr, .int fa])), (k1, .inr (0, [.ref r1])), (r1, .inl (y 0, nb, .inl b1)), (k2, .inr (0, [.ref r2])), (r2, .inl (y 0, nb, .inl b2)), (ae, .inr (1, [.int ek, .int es, .int ew, .long ev]))]) (wn := [(aj, .inr (2, [.ref aw, .ref k1, .ref k2, .ref ap, .int iu, .int en])), (aw, .inr (5, [.int (zb up), .int (zb cw), .int bl, .int wr, .int fa])), (k1, .inr (0, [.ref r1])), (r1, .inl (y 0, nb, .inl b1)), (k2, .inr (0, [.ref r2])), (r2, .inl (y 0, nb, .inl b2)), (ap, .inr (4, [.ref aw, .ref k1, .int en, .int crc])), (ae, .inr (1, [.int ek, .int es, .int ew, .long ev]))]) hfix (cX5_goTo_ok l D y ap aw k1 pb pos crc en) (cwV 2 hts gX3_append_X5_goTo rfl rfl rfl (by decide +kernel) ⟨Nat.le_of_ble_eq_true rfl, Nat.le_of_ble_eq_true rfl⟩) E hP hD hS [6] [0, 1, 2, 3, 4, 5, 7] [0, 1, 2, 3, 4, 5, 7, 6] rfl rfl rfl rfl (by decide) rfl rfl 0 4 rfl rfl rfl hl.1 rfl (Nat.le_of_ble_eq_true rfl) dX3_append_16 ⟨Nat.zero_le _, Nat.zero_le _⟩ (fun H locs hP hD hS => ?_)
    refine W.eq (g2 := F0 m 19 ls []) rfl ?_
    refine lv_aload_n hx hb dX3_append_19 rfl (lv_at hl 0 rfl) ?_
    refine va_get (D := D) (ci := 2) (v := .ref ap) (C := RX3) (T := TX3) (N := 6) hx hb hts iX3 hown hK hP 0 rfl rfl 3 (by decide) (hts (.fieldLink RX3 39 "SampleTracker$Journal" "pen" "LSampleTracker$Pen;") (by decide +kernel)) (fun _ h9 => h9) rfl dX3_append_20 ?_
    refine lv_aload_n hx hb dX3_append_23 rfl (lv_at hl 1 rfl) ?_
    obtain ⟨⟨o_up_4, o_cw_5, o_bl_6, o_wr_7, o_fa_8, o_pos_9, o_crc_10, o_bb_11⟩, hc_12, hf⟩ := obd hf
    refine ct_V (As := [.ref ae]) (rest := []) (wr := [(aj, .inr (2, [.ref aw, .ref k1, .ref k2, .ref ap, .int iu, .int en])), (k2, .inr (0, [.ref r2])), (r2, .inl (y 0, nb, .inl b2))]) (wn := [(aj, .inr (2, [.ref aw, .ref k1, .ref k2, .ref ap, .int iu, .int en])), (aw, .inr (5, [.int (zb o_up_4), .int (zb o_cw_5), .int o_bl_6, .int o_wr_7, .int o_fa_8])), (k1, .inr (0, [.ref r1])), (r1, .inl (y 0, nb, .inl o_bb_11)), (k2, .inr (0, [.ref r2])), (r2, .inl (y 0, nb, .inl b2)), (ap, .inr (4, [.ref aw, .ref k1, .int o_pos_9, .int o_crc_10])), (ae, .inr (1, [.int ek, .int es, .int ew, .long ev]))]) hfix (cX5_writeRecord_ok l D y ap aw k1 r1 ae up cw bl wr fa en crc nb b1 ek es ew ev _ hc_12) (cwV 1 hts gX3_append_X5_writeRecord rfl rfl rfl (by decide +kernel) ⟨Nat.le_of_ble_eq_true rfl, Nat.le_of_ble_eq_true rfl⟩) E hP hD hS [6, 1, 2, 3, 7] [0, 4, 5] [0, 4, 5, 6, 1, 2, 3, 7] rfl rfl rfl rfl (by decide) rfl rfl 0 4 rfl rfl rfl hl.1 rfl (Nat.le_of_ble_eq_true rfl) dX3_append_24 ⟨Nat.zero_le _, Nat.zero_le _⟩ (fun H locs hP hD hS => ?_)
    refine W.eq (g2 := F0 m 27 ls []) rfl ?_
    refine lv_aload_n hx hb dX3_append_27 rfl (lv_at hl 0 rfl) ?_
    refine va_get (D := D) (ci := 2) (v := .ref aw) (C := RX3) (T := TX3) (N := 6) hx hb hts iX3 hown hK hP 0 rfl rfl 0 (by decide) (hts (.fieldLink RX3 18 "SampleTracker$Journal" "power" "LSampleTracker$Power;") (by decide +kernel)) (fun _ h9 => h9) rfl dX3_append_28 ?_
    refine ct_V (As := []) (rest := []) (wr := [(aj, .inr (2, [.ref aw, .ref k1, .ref k2, .ref ap, .int iu, .int en])), (k1, .inr (0, [.ref r1])), (r1, .inl (y 0, nb, .inl o_bb_11)), (k2, .inr (0, [.ref r2])), (r2, .inl (y 0, nb, .inl b2)), (ap, .inr (4, [.ref aw, .ref k1, .int o_pos_9, .int o_crc_10])), (ae, .inr (1, [.int ek, .int es, .int ew, .long ev]))]) (wn := [(aj, .inr (2, [.ref aw, .ref k1, .ref k2, .ref ap, .int iu, .int en])), (aw, .inr (5, [.int (zb o_up_4), .int (zb o_cw_5), .int o_bl_6, .int o_wr_7, .int o_fa_8])), (k1, .inr (0, [.ref r1])), (r1, .inl (y 0, nb, .inl o_bb_11)), (k2, .inr (0, [.ref r2])), (r2, .inl (y 0, nb, .inl b2)), (ap, .inr (4, [.ref aw, .ref k1, .int o_pos_9, .int o_crc_10])), (ae, .inr (1, [.int ek, .int es, .int ew, .long ev]))]) hfix (cX6_isUp_ok l D y aw o_up_4 o_cw_5 o_bl_6 o_wr_7 o_fa_8) (cwV 0 hts gX3_append_X6_isUp rfl rfl rfl (by decide +kernel) ⟨Nat.le_of_ble_eq_true rfl, Nat.le_of_ble_eq_true rfl⟩) E hP hD hS [1] [0, 2, 3, 4, 5, 6, 7] [0, 7, 1, 2, 3, 4, 5, 6] rfl rfl rfl rfl (by decide) rfl rfl 0 5 rfl rfl rfl hl.1 rfl (Nat.le_of_ble_eq_true rfl) dX3_append_31 ⟨Nat.zero_le _, Nat.zero_le _⟩ (fun H locs hP hD hS => ?_)
    refine W.eq (g2 := F0 m 34 ls [.int (zb o_up_4)]) rfl ?_
    refine lv_if_ne (tgt := 39) hx hb dX3_append_34 (by decide) (fun c_14 => ?_) (fun c_14 => ?_)
    · have hf := ifn hf c_14
      refine lv_aload_n hx hb dX3_append_39 rfl (lv_at hl 0 rfl) ?_
      refine lv_aload_n hx hb dX3_append_40 rfl (lv_at hl 0 rfl) ?_
      refine va_get (D := D) (ci := 2) (v := .ref ap) (C := RX3) (T := TX3) (N := 6) hx hb hts iX3 hown hK hP 0 rfl rfl 3 (by decide) (hts (.fieldLink RX3 39 "SampleTracker$Journal" "pen" "LSampleTracker$Pen;") (by decide +kernel)) (fun _ h9 => h9) rfl dX3_append_41 ?_
      refine ct_V (As := []) (rest := [.ref aj]) (wr := [(aj, .inr (2, [.ref aw, .ref k1, .ref k2, .ref ap, .int iu, .int en])), (aw, .inr (5, [.int (zb o_up_4), .int (zb o_cw_5), .int o_bl_6, .int o_wr_7, .int o_fa_8])), (k1, .inr (0, [.ref r1])), (r1, .inl (y 0, nb, .inl o_bb_11)), (k2, .inr (0, [.ref r2])), (r2, .inl (y 0, nb, .inl b2)), (ae, .inr (1, [.int ek, .int es, .int ew, .long ev]))]) (wn := [(aj, .inr (2, [.ref aw, .ref k1, .ref k2, .ref ap, .int iu, .int en])), (aw, .inr (5, [.int (zb o_up_4), .int (zb o_cw_5), .int o_bl_6, .int o_wr_7, .int o_fa_8])), (k1, .inr (0, [.ref r1])), (r1, .inl (y 0, nb, .inl o_bb_11)), (k2, .inr (0, [.ref r2])), (r2, .inl (y 0, nb, .inl b2)), (ap, .inr (4, [.ref aw, .ref k1, .int o_pos_9, .int o_crc_10])), (ae, .inr (1, [.int ek, .int es, .int ew, .long ev]))]) hfix (cX5_position_ok l D y ap aw k1 o_pos_9 o_crc_10) (cwV 0 hts gX3_append_X5_position rfl rfl rfl (by decide +kernel) ⟨Nat.le_of_ble_eq_true rfl, Nat.le_of_ble_eq_true rfl⟩) E hP hD hS [6] [0, 1, 2, 3, 4, 5, 7] [0, 1, 2, 3, 4, 5, 7, 6] rfl rfl rfl rfl (by decide) rfl rfl 0 4 rfl rfl rfl hl.1 rfl (Nat.le_of_ble_eq_true rfl) dX3_append_44 ⟨Nat.zero_le _, Nat.zero_le _⟩ (fun H locs hP hD hS => ?_)
      refine W.eq (g2 := F0 m 47 ls [.int o_pos_9, .ref aj]) rfl ?_
      refine va_put (D := D) (ci := 2) (v := .int o_pos_9) (ty := .int) (C := RX3) (T := TX3) (N := 6) hx hb hts iX3 tyX3 tyX3_ok nmX3 hown hK hP hD hS 0 rfl rfl 5 (by decide) (hts (.fieldLink RX3 15 "SampleTracker$Journal" "end" "I") (by decide +kernel)) (fun _ h9 => h9) rfl (by decide +kernel) rfl rfl (Nat.le_of_ble_eq_true rfl) dX3_append_47 (fun H locs hP hD hS => ?_)
      have hP : va_P D vwCl [(aj, .inr (2, [.ref aw, .ref k1, .ref k2, .ref ap, .int iu, .int o_pos_9])), (aw, .inr (5, [.int (zb o_up_4), .int (zb o_cw_5), .int o_bl_6, .int o_wr_7, .int o_fa_8])), (k1, .inr (0, [.ref r1])), (r1, .inl (y 0, nb, .inl o_bb_11)), (k2, .inr (0, [.ref r2])), (r2, .inl (y 0, nb, .inl b2)), (ap, .inr (4, [.ref aw, .ref k1, .int o_pos_9, .int o_crc_10])), (ae, .inr (1, [.int ek, .int es, .int ew, .long ev]))] H := hP
      have hD : va_D A [(aj, .inr (2, [.ref aw, .ref k1, .ref k2, .ref ap, .int iu, .int o_pos_9])), (aw, .inr (5, [.int (zb o_up_4), .int (zb o_cw_5), .int o_bl_6, .int o_wr_7, .int o_fa_8])), (k1, .inr (0, [.ref r1])), (r1, .inl (y 0, nb, .inl o_bb_11)), (k2, .inr (0, [.ref r2])), (r2, .inl (y 0, nb, .inl b2)), (ap, .inr (4, [.ref aw, .ref k1, .int o_pos_9, .int o_crc_10])), (ae, .inr (1, [.int ek, .int es, .int ew, .long ev]))] := hD
      refine lv_iconst (v := (1 : Int32)) hx hb dX3_append_50 (by decide) ?_
      obtain rfl := Option.some.inj hf
      exact W.zret (ty := .boolean) hx hb hr rfl (fun t ht hW => ⟨⟨(), rfl, by rw [ht]; exact hP, hD⟩, hS.F ht⟩) hS.2.2 dX3_append_51
    · have hf := ifp hf c_14
      refine lv_iconst (v := (0 : Int32)) hx hb dX3_append_37 (by decide) ?_
      obtain rfl := Option.some.inj hf
      exact W.zret (ty := .boolean) hx hb hr rfl (fun t ht hW => ⟨⟨(), rfl, by rw [ht]; exact hP, hD⟩, hS.F ht⟩) hS.2.2 dX3_append_38
  · have hf := ifn hf c_1
    refine ct_V (As := [.int iu]) (rest := [.ref ap]) (wr := [(ae, .inr (1, [.int ek, .int es, .int ew, .long ev]))]) (wn := [(aj, .inr (2, [.ref aw, .ref k1, .ref k2, .ref ap, .int iu, .int en])), (aw, .inr (5, [.int (zb up), .int (zb cw), .int bl, .int wr, .int fa])), (k1, .inr (0, [.ref r1])), (r1, .inl (y 0, nb, .inl b1)), (k2, .inr (0, [.ref r2])), (r2, .inl (y 0, nb, .inl b2)), (ap, .inr (4, [.ref aw, .ref pb, .int pos, .int crc])), (ae, .inr (1, [.int ek, .int es, .int ew, .long ev]))]) hfix (cX3_bank_2_ok l D y aj aw k1 r1 k2 r2 ap up cw bl wr fa pb pos crc nb b1 b2 iu en iu c_1) (cwV 1 hts gX3_append_X3_bank rfl rfl rfl (by decide +kernel) ⟨Nat.le_of_ble_eq_true rfl, Nat.le_of_ble_eq_true rfl⟩) E hP hD hS [0, 1, 2, 3, 4, 5, 6] [7] [1, 2, 3, 4, 5, 6, 7, 0] rfl rfl rfl rfl (by decide) rfl rfl 0 2 rfl rfl rfl hl.1 rfl (Nat.le_of_ble_eq_true rfl) dX3_append_9 ⟨Nat.zero_le _, Nat.zero_le _⟩ (fun H locs hP hD hS => ?_)
    refine W.eq (g2 := F0 m 12 ls [.ref k2, .ref ap]) rfl ?_
    refine lv_aload_n hx hb dX3_append_12 rfl (lv_at hl 0 rfl) ?_
    refine va_get (D := D) (ci := 2) (v := .int en) (C := RX3) (T := TX3) (N := 6) hx hb hts iX3 hown hK hP 0 rfl rfl 5 (by decide) (hts (.fieldLink RX3 15 "SampleTracker$Journal" "end" "I") (by decide +kernel)) (fun _ h9 => h9) rfl dX3_append_13 ?_
    refine ct_V (As := [.ref k2, .int en]) (rest := []) (wr := [(aj, .inr (2, [.ref aw, .ref k1, .ref k2, .ref ap, .int iu, .int en])), (aw, .inr (5, [.int (zb up), .int (zb cw), .int bl, .int wr, .int fa])), (k1, .inr (0, [.ref r1])), (r1, .inl (y 0, nb, .inl b1)), (k2, .inr (0, [.ref r2])), (r2, .inl (y 0, nb, .inl b2)), (ae, .inr (1, [.int ek, .int es, .int ew, .long ev]))]) (wn := [(aj, .inr (2, [.ref aw, .ref k1, .ref k2, .ref ap, .int iu, .int en])), (aw, .inr (5, [.int (zb up), .int (zb cw), .int bl, .int wr, .int fa])), (k1, .inr (0, [.ref r1])), (r1, .inl (y 0, nb, .inl b1)), (k2, .inr (0, [.ref r2])), (r2, .inl (y 0, nb, .inl b2)), (ap, .inr (4, [.ref aw, .ref k2, .int en, .int crc])), (ae, .inr (1, [.int ek, .int es, .int ew, .long ev]))]) hfix (cX5_goTo_ok l D y ap aw k2 pb pos crc en) (cwV 2 hts gX3_append_X5_goTo rfl rfl rfl (by decide +kernel) ⟨Nat.le_of_ble_eq_true rfl, Nat.le_of_ble_eq_true rfl⟩) E hP hD hS [6] [0, 1, 2, 3, 4, 5, 7] [0, 1, 2, 3, 4, 5, 7, 6] rfl rfl rfl rfl (by decide) rfl rfl 0 4 rfl rfl rfl hl.1 rfl (Nat.le_of_ble_eq_true rfl) dX3_append_16 ⟨Nat.zero_le _, Nat.zero_le _⟩ (fun H locs hP hD hS => ?_)
    refine W.eq (g2 := F0 m 19 ls []) rfl ?_
    refine lv_aload_n hx hb dX3_append_19 rfl (lv_at hl 0 rfl) ?_
    refine va_get (D := D) (ci := 2) (v := .ref ap) (C := RX3) (T := TX3) (N := 6) hx hb hts iX3 hown hK hP 0 rfl rfl 3 (by decide) (hts (.fieldLink RX3 39 "SampleTracker$Journal" "pen" "LSampleTracker$Pen;") (by decide +kernel)) (fun _ h9 => h9) rfl dX3_append_20 ?_
    refine lv_aload_n hx hb dX3_append_23 rfl (lv_at hl 1 rfl) ?_
    obtain ⟨⟨o_up_18, o_cw_19, o_bl_20, o_wr_21, o_fa_22, o_pos_23, o_crc_24, o_bb_25⟩, hc_26, hf⟩ := obd hf
    refine ct_V (As := [.ref ae]) (rest := []) (wr := [(aj, .inr (2, [.ref aw, .ref k1, .ref k2, .ref ap, .int iu, .int en])), (k1, .inr (0, [.ref r1])), (r1, .inl (y 0, nb, .inl b1))]) (wn := [(aj, .inr (2, [.ref aw, .ref k1, .ref k2, .ref ap, .int iu, .int en])), (aw, .inr (5, [.int (zb o_up_18), .int (zb o_cw_19), .int o_bl_20, .int o_wr_21, .int o_fa_22])), (k1, .inr (0, [.ref r1])), (r1, .inl (y 0, nb, .inl b1)), (k2, .inr (0, [.ref r2])), (r2, .inl (y 0, nb, .inl o_bb_25)), (ap, .inr (4, [.ref aw, .ref k2, .int o_pos_23, .int o_crc_24])), (ae, .inr (1, [.int ek, .int es, .int ew, .long ev]))]) hfix (cX5_writeRecord_ok l D y ap aw k2 r2 ae up cw bl wr fa en crc nb b2 ek es ew ev _ hc_26) (cwV 1 hts gX3_append_X5_writeRecord rfl rfl rfl (by decide +kernel) ⟨Nat.le_of_ble_eq_true rfl, Nat.le_of_ble_eq_true rfl⟩) E hP hD hS [6, 1, 4, 5, 7] [0, 2, 3] [0, 4, 1, 2, 5, 6, 3, 7] rfl rfl rfl rfl (by decide) rfl rfl 0 4 rfl rfl rfl hl.1 rfl (Nat.le_of_ble_eq_true rfl) dX3_append_24 ⟨Nat.zero_le _, Nat.zero_le _⟩ (fun H locs hP hD hS => ?_)
    refine W.eq (g2 := F0 m 27 ls []) rfl ?_
    refine lv_aload_n hx hb dX3_append_27 rfl (lv_at hl 0 rfl) ?_
    refine va_get (D := D) (ci := 2) (v := .ref aw) (C := RX3) (T := TX3) (N := 6) hx hb hts iX3 hown hK hP 0 rfl rfl 0 (by decide) (hts (.fieldLink RX3 18 "SampleTracker$Journal" "power" "LSampleTracker$Power;") (by decide +kernel)) (fun _ h9 => h9) rfl dX3_append_28 ?_
    refine ct_V (As := []) (rest := []) (wr := [(aj, .inr (2, [.ref aw, .ref k1, .ref k2, .ref ap, .int iu, .int en])), (k1, .inr (0, [.ref r1])), (r1, .inl (y 0, nb, .inl b1)), (k2, .inr (0, [.ref r2])), (r2, .inl (y 0, nb, .inl o_bb_25)), (ap, .inr (4, [.ref aw, .ref k2, .int o_pos_23, .int o_crc_24])), (ae, .inr (1, [.int ek, .int es, .int ew, .long ev]))]) (wn := [(aj, .inr (2, [.ref aw, .ref k1, .ref k2, .ref ap, .int iu, .int en])), (aw, .inr (5, [.int (zb o_up_18), .int (zb o_cw_19), .int o_bl_20, .int o_wr_21, .int o_fa_22])), (k1, .inr (0, [.ref r1])), (r1, .inl (y 0, nb, .inl b1)), (k2, .inr (0, [.ref r2])), (r2, .inl (y 0, nb, .inl o_bb_25)), (ap, .inr (4, [.ref aw, .ref k2, .int o_pos_23, .int o_crc_24])), (ae, .inr (1, [.int ek, .int es, .int ew, .long ev]))]) hfix (cX6_isUp_ok l D y aw o_up_18 o_cw_19 o_bl_20 o_wr_21 o_fa_22) (cwV 0 hts gX3_append_X6_isUp rfl rfl rfl (by decide +kernel) ⟨Nat.le_of_ble_eq_true rfl, Nat.le_of_ble_eq_true rfl⟩) E hP hD hS [1] [0, 2, 3, 4, 5, 6, 7] [0, 7, 1, 2, 3, 4, 5, 6] rfl rfl rfl rfl (by decide) rfl rfl 0 5 rfl rfl rfl hl.1 rfl (Nat.le_of_ble_eq_true rfl) dX3_append_31 ⟨Nat.zero_le _, Nat.zero_le _⟩ (fun H locs hP hD hS => ?_)
    refine W.eq (g2 := F0 m 34 ls [.int (zb o_up_18)]) rfl ?_
    refine lv_if_ne (tgt := 39) hx hb dX3_append_34 (by decide) (fun c_28 => ?_) (fun c_28 => ?_)
    · have hf := ifn hf c_28
      refine lv_aload_n hx hb dX3_append_39 rfl (lv_at hl 0 rfl) ?_
      refine lv_aload_n hx hb dX3_append_40 rfl (lv_at hl 0 rfl) ?_
      refine va_get (D := D) (ci := 2) (v := .ref ap) (C := RX3) (T := TX3) (N := 6) hx hb hts iX3 hown hK hP 0 rfl rfl 3 (by decide) (hts (.fieldLink RX3 39 "SampleTracker$Journal" "pen" "LSampleTracker$Pen;") (by decide +kernel)) (fun _ h9 => h9) rfl dX3_append_41 ?_
      refine ct_V (As := []) (rest := [.ref aj]) (wr := [(aj, .inr (2, [.ref aw, .ref k1, .ref k2, .ref ap, .int iu, .int en])), (aw, .inr (5, [.int (zb o_up_18), .int (zb o_cw_19), .int o_bl_20, .int o_wr_21, .int o_fa_22])), (k1, .inr (0, [.ref r1])), (r1, .inl (y 0, nb, .inl b1)), (k2, .inr (0, [.ref r2])), (r2, .inl (y 0, nb, .inl o_bb_25)), (ae, .inr (1, [.int ek, .int es, .int ew, .long ev]))]) (wn := [(aj, .inr (2, [.ref aw, .ref k1, .ref k2, .ref ap, .int iu, .int en])), (aw, .inr (5, [.int (zb o_up_18), .int (zb o_cw_19), .int o_bl_20, .int o_wr_21, .int o_fa_22])), (k1, .inr (0, [.ref r1])), (r1, .inl (y 0, nb, .inl b1)), (k2, .inr (0, [.ref r2])), (r2, .inl (y 0, nb, .inl o_bb_25)), (ap, .inr (4, [.ref aw, .ref k2, .int o_pos_23, .int o_crc_24])), (ae, .inr (1, [.int ek, .int es, .int ew, .long ev]))]) hfix (cX5_position_ok l D y ap aw k2 o_pos_23 o_crc_24) (cwV 0 hts gX3_append_X5_position rfl rfl rfl (by decide +kernel) ⟨Nat.le_of_ble_eq_true rfl, Nat.le_of_ble_eq_true rfl⟩) E hP hD hS [6] [0, 1, 2, 3, 4, 5, 7] [0, 1, 2, 3, 4, 5, 7, 6] rfl rfl rfl rfl (by decide) rfl rfl 0 4 rfl rfl rfl hl.1 rfl (Nat.le_of_ble_eq_true rfl) dX3_append_44 ⟨Nat.zero_le _, Nat.zero_le _⟩ (fun H locs hP hD hS => ?_)
      refine W.eq (g2 := F0 m 47 ls [.int o_pos_23, .ref aj]) rfl ?_
      refine va_put (D := D) (ci := 2) (v := .int o_pos_23) (ty := .int) (C := RX3) (T := TX3) (N := 6) hx hb hts iX3 tyX3 tyX3_ok nmX3 hown hK hP hD hS 0 rfl rfl 5 (by decide) (hts (.fieldLink RX3 15 "SampleTracker$Journal" "end" "I") (by decide +kernel)) (fun _ h9 => h9) rfl (by decide +kernel) rfl rfl (Nat.le_of_ble_eq_true rfl) dX3_append_47 (fun H locs hP hD hS => ?_)
      have hP : va_P D vwCl [(aj, .inr (2, [.ref aw, .ref k1, .ref k2, .ref ap, .int iu, .int o_pos_23])), (aw, .inr (5, [.int (zb o_up_18), .int (zb o_cw_19), .int o_bl_20, .int o_wr_21, .int o_fa_22])), (k1, .inr (0, [.ref r1])), (r1, .inl (y 0, nb, .inl b1)), (k2, .inr (0, [.ref r2])), (r2, .inl (y 0, nb, .inl o_bb_25)), (ap, .inr (4, [.ref aw, .ref k2, .int o_pos_23, .int o_crc_24])), (ae, .inr (1, [.int ek, .int es, .int ew, .long ev]))] H := hP
      have hD : va_D A [(aj, .inr (2, [.ref aw, .ref k1, .ref k2, .ref ap, .int iu, .int o_pos_23])), (aw, .inr (5, [.int (zb o_up_18), .int (zb o_cw_19), .int o_bl_20, .int o_wr_21, .int o_fa_22])), (k1, .inr (0, [.ref r1])), (r1, .inl (y 0, nb, .inl b1)), (k2, .inr (0, [.ref r2])), (r2, .inl (y 0, nb, .inl o_bb_25)), (ap, .inr (4, [.ref aw, .ref k2, .int o_pos_23, .int o_crc_24])), (ae, .inr (1, [.int ek, .int es, .int ew, .long ev]))] := hD
      refine lv_iconst (v := (1 : Int32)) hx hb dX3_append_50 (by decide) ?_
      obtain rfl := Option.some.inj hf
      exact W.zret (ty := .boolean) hx hb hr rfl (fun t ht hW => ⟨⟨(), rfl, by rw [ht]; exact hP, hD⟩, hS.F ht⟩) hS.2.2 dX3_append_51
    · have hf := ifp hf c_28
      refine lv_iconst (v := (0 : Int32)) hx hb dX3_append_37 (by decide) ?_
      obtain rfl := Option.some.inj hf
      exact W.zret (ty := .boolean) hx hb hr rfl (fun t ht hW => ⟨⟨(), rfl, by rw [ht]; exact hP, hD⟩, hS.F ht⟩) hS.2.2 dX3_append_38

def fX3_otherBankHolds (nb : Nat) (p1 : Int32) : Option (Bool) := (if (nI nb) < ((25 : Int32) + (p1 * (19 : Int32))) then some false else some true)

set_option maxHeartbeats 4000000 in
set_option maxRecDepth 100000 in
theorem cX3_otherBankHolds_ok (l : Launch) (D : va_G) (y : Nat → ClassId) (aj : Nat) (aw : Nat) (k1 : Nat) (r1 : Nat) (k2 : Nat) (r2 : Nat) (ap : Nat) (up : Bool) (cw : Bool) (bl : Int32) (wr : Int32) (fa : Int32) (pb : Nat) (pos : Int32) (crc : Int32) (nb : Nat) (b1 : Nat → Int32) (b2 : Nat → Int32) (iu : Int32) (en : Int32) (p1 : Int32) (res : Bool) (hf : fX3_otherBankHolds nb p1 = some res) : CT l D y yX3_otherBankHolds wsX3_otherBankHolds ({ frames := 2, cells := 0, slots := 0, locals := 40 } : Room) [.ref aj, .int p1] [(aj, .inr (2, [.ref aw, .ref k1, .ref k2, .ref ap, .int iu, .int en])), (aw, .inr (5, [.int (zb up), .int (zb cw), .int bl, .int wr, .int fa])), (k1, .inr (0, [.ref r1])), (r1, .inl (y 0, nb, .inl b1)), (k2, .inr (0, [.ref r2])), (r2, .inl (y 0, nb, .inl b2)), (ap, .inr (4, [.ref aw, .ref pb, .int pos, .int crc]))] (some (.int (zb res))) [(aj, .inr (2, [.ref aw, .ref k1, .ref k2, .ref ap, .int iu, .int en])), (aw, .inr (5, [.int (zb up), .int (zb cw), .int bl, .int wr, .int fa])), (k1, .inr (0, [.ref r1])), (r1, .inl (y 0, nb, .inl b1)), (k2, .inr (0, [.ref r2])), (r2, .inl (y 0, nb, .inl b2)), (ap, .inr (4, [.ref aw, .ref pb, .int pos, .int crc]))] := by
  intro sz
  refine Met.ofW (cc := cX3_otherBankHolds) (maxL := 2) (ret := (some .boolean)) (by decide) rfl ?_
  intro p e s m args below meth c s₁ B hml hv
  obtain ⟨rfl, hsz, hP, hK, hD0, hst, hno⟩ := hv
  have hx := B.exec
  have hb := B.bytes
  have hr := B.returns
  have hts := atoms_spec (ws := wsX3_otherBankHolds) B.pre
  have hown : s.vm.findClass RX3 = some m.cls := findClass_of_methodNamed B.named
  have hlocks := B.notSynchronized
  subst hsz
  have hD := hD0.self (sz := s.heap.size)
  generalize hAe : va_A [(aj, .inr (2, [.ref aw, .ref k1, .ref k2, .ref ap, .int iu, .int en])), (aw, .inr (5, [.int (zb up), .int (zb cw), .int bl, .int wr, .int fa])), (k1, .inr (0, [.ref r1])), (r1, .inl (y 0, nb, .inl b1)), (k2, .inr (0, [.ref r2])), (r2, .inl (y 0, nb, .inl b2)), (ap, .inr (4, [.ref aw, .ref pb, .int pos, .int crc]))] s.heap.size = A at hD hst ⊢
  have hA : ∀ q : Nat, s.heap.size ≤ q → A q := fun q h => by rw [← hAe]; exact Or.inr h
  have hS : va_S A s.heap s.heap [] := va_S.rf
  have E : Ev D y A s := ⟨hK, hst, hno, hA⟩
  have hfix : CallFix p m c cX3_otherBankHolds 2 s _ wsX3_otherBankHolds RX3 := ⟨hx, hb, hml, hown, hts⟩
  have hP : va_P D vwCl [(aj, .inr (2, [.ref aw, .ref k1, .ref k2, .ref ap, .int iu, .int en])), (aw, .inr (5, [.int (zb up), .int (zb cw), .int bl, .int wr, .int fa])), (k1, .inr (0, [.ref r1])), (r1, .inl (y 0, nb, .inl b1)), (k2, .inr (0, [.ref r2])), (r2, .inl (y 0, nb, .inl b2)), (ap, .inr (4, [.ref aw, .ref pb, .int pos, .int crc]))] s.heap := hP
  have hl := lv_entry ([.ref aj, .int p1]) (n := 2) (Nat.le_of_ble_eq_true rfl)
  rw [lg_entry_eq]
  generalize (lg_sl ([.ref aj, .int p1]) ++ List.replicate (2 - (lg_sl ([.ref aj, .int p1])).length) Slot.unset).toArray = ls at hl ⊢
  have hl : lv_has ls 2 [(0, .ref aj), (1, .int p1)] := hl
  unfold fX3_otherBankHolds at hf
  refine lv_bipush (v := (25 : Int32)) hx hb dX3_otherBankHolds_0 (by decide) ?_
  refine lv_iload_n hx hb dX3_otherBankHolds_2 rfl (lv_at hl 1 rfl) ?_
  refine lv_bipush (v := (19 : Int32)) hx hb dX3_otherBankHolds_3 (by decide) ?_
  refine lv_imul hx hb dX3_otherBankHolds_5 ?_
  refine lv_iadd hx hb dX3_otherBankHolds_6 ?_
  refine lv_aload_n hx hb dX3_otherBankHolds_7 rfl (lv_at hl 0 rfl) ?_
  refine ct_V (As := []) (rest := [.int ((25 : Int32) + (p1 * (19 : Int32)))]) (wr := []) (wn := [(aj, .inr (2, [.ref aw, .ref k1, .ref k2, .ref ap, .int iu, .int en])), (aw, .inr (5, [.int (zb up), .int (zb cw), .int bl, .int wr, .int fa])), (k1, .inr (0, [.ref r1])), (r1, .inl (y 0, nb, .inl b1)), (k2, .inr (0, [.ref r2])), (r2, .inl (y 0, nb, .inl b2)), (ap, .inr (4, [.ref aw, .ref pb, .int pos, .int crc]))]) hfix (cX3_bankBytes_ok l D y aj aw k1 r1 k2 r2 ap up cw bl wr fa pb pos crc nb b1 b2 iu en) (cwV 0 hts gX3_otherBankHolds_X3_bankBytes rfl rfl rfl (by decide +kernel) ⟨Nat.le_of_ble_eq_true rfl, Nat.le_of_ble_eq_true rfl⟩) E hP hD hS [0, 1, 2, 3, 4, 5, 6] [] [0, 1, 2, 3, 4, 5, 6] rfl rfl rfl rfl (by decide) rfl rfl 0 2 rfl rfl rfl hl.1 rfl (Nat.le_of_ble_eq_true rfl) dX3_otherBankHolds_8 ⟨Nat.zero_le _, Nat.zero_le _⟩ (fun H locs hP hD hS => ?_)
  refine W.eq (g2 := F0 m 11 ls [.int (nI nb), .int ((25 : Int32) + (p1 * (19 : Int32)))]) rfl ?_
  refine lv_icmp_gt (tgt := 18) hx hb dX3_otherBankHolds_11 (by decide) (fun c_2 => ?_) (fun c_2 => ?_)
  · have hf := ifp hf c_2
    refine lv_iconst (v := (0 : Int32)) hx hb dX3_otherBankHolds_18 (by decide) ?_
    obtain rfl := Option.some.inj hf
    exact W.zret (ty := .boolean) hx hb hr rfl (fun t ht hW => ⟨⟨(), rfl, by rw [ht]; exact hP, hD⟩, hS.F ht⟩) hS.2.2 dX3_otherBankHolds_19
  · have hf := ifn hf c_2
    refine lv_iconst (v := (1 : Int32)) hx hb dX3_otherBankHolds_14 (by decide) ?_
    refine lv_goto (tgt := 19) hx hb dX3_otherBankHolds_15 (by decide) ?_
    obtain rfl := Option.some.inj hf
    exact W.zret (ty := .boolean) hx hb hr rfl (fun t ht hW => ⟨⟨(), rfl, by rw [ht]; exact hP, hD⟩, hS.F ht⟩) hS.2.2 dX3_otherBankHolds_19

def fX3_chooseBank (nb : Nat) (b1 : Nat → Int32) (b2 : Nat → Int32) : Option (Int32 × Int32) := ((fX0_hasRightHead nb b1).bind fun r_1 => ((fX0_hasRightHead nb b2).bind fun r_3 => ((fX0_number nb b2 (0 : Int32) (4 : Int32)).bind fun r_5 => ((fX0_number nb b1 (0 : Int32) (4 : Int32)).bind fun r_7 => (if (lg_cmp r_5 r_7) ≤ 0 then (if (zb r_3) = 0 then some ((0 : Int32), (9 : Int32)) else (if (zb r_1) = 0 then some ((1 : Int32), (9 : Int32)) else some ((0 : Int32), (9 : Int32)))) else (if (zb r_3) = 0 then some ((0 : Int32), (9 : Int32)) else some ((1 : Int32), (9 : Int32))))))))

set_option maxHeartbeats 4000000 in
set_option maxRecDepth 100000 in
theorem cX3_chooseBank_ok (l : Launch) (D : va_G) (y : Nat → ClassId) (aj : Nat) (aw : Nat) (k1 : Nat) (r1 : Nat) (k2 : Nat) (r2 : Nat) (ap : Nat) (up : Bool) (cw : Bool) (bl : Int32) (wr : Int32) (fa : Int32) (pb : Nat) (pos : Int32) (crc : Int32) (nb : Nat) (b1 : Nat → Int32) (b2 : Nat → Int32) (iu : Int32) (en : Int32) (res : Int32 × Int32) (hf : fX3_chooseBank nb b1 b2 = some res) : CT l D y yX3_chooseBank wsX3_chooseBank ({ frames := 4, cells := 0, slots := 0, locals := 91 } : Room) [.ref aj] [(aj, .inr (2, [.ref aw, .ref k1, .ref k2, .ref ap, .int iu, .int en])), (aw, .inr (5, [.int (zb up), .int (zb cw), .int bl, .int wr, .int fa])), (k1, .inr (0, [.ref r1])), (r1, .inl (y 0, nb, .inl b1)), (k2, .inr (0, [.ref r2])), (r2, .inl (y 0, nb, .inl b2)), (ap, .inr (4, [.ref aw, .ref pb, .int pos, .int crc]))] (none) [(aj, .inr (2, [.ref aw, .ref k1, .ref k2, .ref ap, .int res.1, .int res.2])), (aw, .inr (5, [.int (zb up), .int (zb cw), .int bl, .int wr, .int fa])), (k1, .inr (0, [.ref r1])), (r1, .inl (y 0, nb, .inl b1)), (k2, .inr (0, [.ref r2])), (r2, .inl (y 0, nb, .inl b2)), (ap, .inr (4, [.ref aw, .ref pb, .int pos, .int crc]))] := by
  intro sz
  refine Met.ofW (cc := cX3_chooseBank) (maxL := 4) (ret := none) (by decide) rfl ?_
  intro p e s m args below meth c s₁ B hml hv
  obtain ⟨rfl, hsz, hP, hK, hD0, hst, hno⟩ := hv
  have hx := B.exec
  have hb := B.bytes
  have hr := B.returns
  have hts := atoms_spec (ws := wsX3_chooseBank) B.pre
  have hown : s.vm.findClass RX3 = some m.cls := findClass_of_methodNamed B.named
  have hlocks := B.notSynchronized
  subst hsz
  have hD := hD0.self (sz := s.heap.size)
  generalize hAe : va_A [(aj, .inr (2, [.ref aw, .ref k1, .ref k2, .ref ap, .int iu, .int en])), (aw, .inr (5, [.int (zb up), .int (zb cw), .int bl, .int wr, .int fa])), (k1, .inr (0, [.ref r1])), (r1, .inl (y 0, nb, .inl b1)), (k2, .inr (0, [.ref r2])), (r2, .inl (y 0, nb, .inl b2)), (ap, .inr (4, [.ref aw, .ref pb, .int pos, .int crc]))] s.heap.size = A at hD hst ⊢
  have hA : ∀ q : Nat, s.heap.size ≤ q → A q := fun q h => by rw [← hAe]; exact Or.inr h
  have hS : va_S A s.heap s.heap [] := va_S.rf
  have E : Ev D y A s := ⟨hK, hst, hno, hA⟩
  have hfix : CallFix p m c cX3_chooseBank 4 s _ wsX3_chooseBank RX3 := ⟨hx, hb, hml, hown, hts⟩
  have hP : va_P D vwCl [(aj, .inr (2, [.ref aw, .ref k1, .ref k2, .ref ap, .int iu, .int en])), (aw, .inr (5, [.int (zb up), .int (zb cw), .int bl, .int wr, .int fa])), (k1, .inr (0, [.ref r1])), (r1, .inl (y 0, nb, .inl b1)), (k2, .inr (0, [.ref r2])), (r2, .inl (y 0, nb, .inl b2)), (ap, .inr (4, [.ref aw, .ref pb, .int pos, .int crc]))] s.heap := hP
  have iX3 : ∀ w ∈ wsX30, w ∈ wsX3_chooseBank := by decide +kernel
  have hl := lv_entry ([.ref aj]) (n := 4) (Nat.le_of_ble_eq_true rfl)
  rw [lg_entry_eq]
  generalize (lg_sl ([.ref aj]) ++ List.replicate (4 - (lg_sl ([.ref aj])).length) Slot.unset).toArray = ls at hl ⊢
  have hl : lv_has ls 4 [(0, .ref aj)] := hl
  unfold fX3_chooseBank at hf
  refine lv_aload_n hx hb dX3_chooseBank_0 rfl (lv_at hl 0 rfl) ?_
  refine va_get (D := D) (ci := 2) (v := .ref k1) (C := RX3) (T := TX3) (N := 6) hx hb hts iX3 hown hK hP 0 rfl rfl 1 (by decide) (hts (.fieldLink RX3 27 "SampleTracker$Journal" "first" "LSampleTracker$Bank;") (by decide +kernel)) (fun _ h9 => h9) rfl dX3_chooseBank_1 ?_
  obtain ⟨r_1, hc_2, hf⟩ := obd hf
  refine ct_V (As := []) (rest := []) (wr := [(aj, .inr (2, [.ref aw, .ref k1, .ref k2, .ref ap, .int iu, .int en])), (aw, .inr (5, [.int (zb up), .int (zb cw), .int bl, .int wr, .int fa])), (k2, .inr (0, [.ref r2])), (r2, .inl (y 0, nb, .inl b2)), (ap, .inr (4, [.ref aw, .ref pb, .int pos, .int crc]))]) (wn := [(aj, .inr (2, [.ref aw, .ref k1, .ref k2, .ref ap, .int iu, .int en])), (aw, .inr (5, [.int (zb up), .int (zb cw), .int bl, .int wr, .int fa])), (k1, .inr (0, [.ref r1])), (r1, .inl (y 0, nb, .inl b1)), (k2, .inr (0, [.ref r2])), (r2, .inl (y 0, nb, .inl b2)), (ap, .inr (4, [.ref aw, .ref pb, .int pos, .int crc]))]) hfix (cX0_hasRightHead_ok l D y k1 r1 nb b1 _ hc_2) (cwV 0 hts gX3_chooseBank_X0_hasRightHead rfl rfl rfl (by decide +kernel) ⟨Nat.le_of_ble_eq_true rfl, Nat.le_of_ble_eq_true rfl⟩) E hP hD hS [2, 3] [0, 1, 4, 5, 6] [0, 1, 5, 6, 2, 3, 4] rfl rfl rfl rfl (by decide) rfl rfl 0 0 rfl rfl rfl hl.1 rfl (Nat.le_of_ble_eq_true rfl) dX3_chooseBank_4 ⟨Nat.zero_le _, Nat.zero_le _⟩ (fun H locs hP hD hS => ?_)
  refine W.eq (g2 := F0 m 7 ls [.int (zb r_1)]) rfl ?_
  refine lv_istore_n (lv' := [(1, .int (zb r_1)), (0, .ref aj)]) hx hb dX3_chooseBank_7 rfl hl (by decide) rfl (fun ls hl => ?_)
  refine lv_aload_n hx hb dX3_chooseBank_8 rfl (lv_at hl 1 rfl) ?_
  refine va_get (D := D) (ci := 2) (v := .ref k2) (C := RX3) (T := TX3) (N := 6) hx hb hts iX3 hown hK hP 0 rfl rfl 2 (by decide) (hts (.fieldLink RX3 31 "SampleTracker$Journal" "second" "LSampleTracker$Bank;") (by decide +kernel)) (fun _ h9 => h9) rfl dX3_chooseBank_9 ?_
  obtain ⟨r_3, hc_4, hf⟩ := obd hf
  refine ct_V (As := []) (rest := []) (wr := [(aj, .inr (2, [.ref aw, .ref k1, .ref k2, .ref ap, .int iu, .int en])), (aw, .inr (5, [.int (zb up), .int (zb cw), .int bl, .int wr, .int fa])), (k1, .inr (0, [.ref r1])), (r1, .inl (y 0, nb, .inl b1)), (ap, .inr (4, [.ref aw, .ref pb, .int pos, .int crc]))]) (wn := [(aj, .inr (2, [.ref aw, .ref k1, .ref k2, .ref ap, .int iu, .int en])), (aw, .inr (5, [.int (zb up), .int (zb cw), .int bl, .int wr, .int fa])), (k1, .inr (0, [.ref r1])), (r1, .inl (y 0, nb, .inl b1)), (k2, .inr (0, [.ref r2])), (r2, .inl (y 0, nb, .inl b2)), (ap, .inr (4, [.ref aw, .ref pb, .int pos, .int crc]))]) hfix (cX0_hasRightHead_ok l D y k2 r2 nb b2 _ hc_4) (cwV 0 hts gX3_chooseBank_X0_hasRightHead rfl rfl rfl (by decide +kernel) ⟨Nat.le_of_ble_eq_true rfl, Nat.le_of_ble_eq_true rfl⟩) E hP hD hS [4, 5] [0, 1, 2, 3, 6] [0, 1, 2, 3, 5, 6, 4] rfl rfl rfl rfl (by decide) rfl rfl 0 0 rfl rfl rfl hl.1 rfl (Nat.le_of_ble_eq_true rfl) dX3_chooseBank_12 ⟨Nat.zero_le _, Nat.zero_le _⟩ (fun H locs hP hD hS => ?_)
  refine W.eq (g2 := F0 m 15 ls [.int (zb r_3)]) rfl ?_
  refine lv_istore_n (lv' := [(2, .int (zb r_3)), (1, .int (zb r_1)), (0, .ref aj)]) hx hb dX3_chooseBank_15 rfl hl (by decide) rfl (fun ls hl => ?_)
  refine lv_aload_n hx hb dX3_chooseBank_16 rfl (lv_at hl 2 rfl) ?_
  refine va_get (D := D) (ci := 2) (v := .ref k2) (C := RX3) (T := TX3) (N := 6) hx hb hts iX3 hown hK hP 0 rfl rfl 2 (by decide) (hts (.fieldLink RX3 31 "SampleTracker$Journal" "second" "LSampleTracker$Bank;") (by decide +kernel)) (fun _ h9 => h9) rfl dX3_chooseBank_17 ?_
  refine lv_iconst (v := (0 : Int32)) hx hb dX3_chooseBank_20 (by decide) ?_
  refine lv_iconst (v := (4 : Int32)) hx hb dX3_chooseBank_21 (by decide) ?_
  obtain ⟨r_5, hc_6, hf⟩ := obd hf
  refine ct_V (As := [.int (0 : Int32), .int (4 : Int32)]) (rest := []) (wr := [(aj, .inr (2, [.ref aw, .ref k1, .ref k2, .ref ap, .int iu, .int en])), (aw, .inr (5, [.int (zb up), .int (zb cw), .int bl, .int wr, .int fa])), (k1, .inr (0, [.ref r1])), (r1, .inl (y 0, nb, .inl b1)), (ap, .inr (4, [.ref aw, .ref pb, .int pos, .int crc]))]) (wn := [(aj, .inr (2, [.ref aw, .ref k1, .ref k2, .ref ap, .int iu, .int en])), (aw, .inr (5, [.int (zb up), .int (zb cw), .int bl, .int wr, .int fa])), (k1, .inr (0, [.ref r1])), (r1, .inl (y 0, nb, .inl b1)), (k2, .inr (0, [.ref r2])), (r2, .inl (y 0, nb, .inl b2)), (ap, .inr (4, [.ref aw, .ref pb, .int pos, .int crc]))]) hfix (cX0_number_ok l D y k2 r2 nb b2 (0 : Int32) (4 : Int32) _ hc_6) (cwV 2 hts gX3_chooseBank_X0_number rfl rfl rfl (by decide +kernel) ⟨Nat.le_of_ble_eq_true rfl, Nat.le_of_ble_eq_true rfl⟩) E hP hD hS [4, 5] [0, 1, 2, 3, 6] [0, 1, 2, 3, 5, 6, 4] rfl rfl rfl rfl (by decide) rfl rfl 0 0 rfl rfl rfl hl.1 rfl (Nat.le_of_ble_eq_true rfl) dX3_chooseBank_22 ⟨Nat.zero_le _, Nat.zero_le _⟩ (fun H locs hP hD hS => ?_)
  refine W.eq (g2 := F0 m 25 ls [.long r_5]) rfl ?_
  refine lv_aload_n hx hb dX3_chooseBank_25 rfl (lv_at hl 2 rfl) ?_
  refine va_get (D := D) (ci := 2) (v := .ref k1) (C := RX3) (T := TX3) (N := 6) hx hb hts iX3 hown hK hP 0 rfl rfl 1 (by decide) (hts (.fieldLink RX3 27 "SampleTracker$Journal" "first" "LSampleTracker$Bank;") (by decide +kernel)) (fun _ h9 => h9) rfl dX3_chooseBank_26 ?_
  refine lv_iconst (v := (0 : Int32)) hx hb dX3_chooseBank_29 (by decide) ?_
  refine lv_iconst (v := (4 : Int32)) hx hb dX3_chooseBank_30 (by decide) ?_
  obtain ⟨r_7, hc_8, hf⟩ := obd hf
  refine ct_V (As := [.int (0 : Int32), .int (4 : Int32)]) (rest := [.long r_5]) (wr := [(aj, .inr (2, [.ref aw, .ref k1, .ref k2, .ref ap, .int iu, .int en])), (aw, .inr (5, [.int (zb up), .int (zb cw), .int bl, .int wr, .int fa])), (k2, .inr (0, [.ref r2])), (r2, .inl (y 0, nb, .inl b2)), (ap, .inr (4, [.ref aw, .ref pb, .int pos, .int crc]))]) (wn := [(aj, .inr (2, [.ref aw, .ref k1, .ref k2, .ref ap, .int iu, .int en])), (aw, .inr (5, [.int (zb up), .int (zb cw), .int bl, .int wr, .int fa])), (k1, .inr (0, [.ref r1])), (r1, .inl (y 0, nb, .inl b1)), (k2, .inr (0, [.ref r2])), (r2, .inl (y 0, nb, .inl b2)), (ap, .inr (4, [.ref aw, .ref pb, .int pos, .int crc]))]) hfix (cX0_number_ok l D y k1 r1 nb b1 (0 : Int32) (4 : Int32) _ hc_8) (cwV 2 hts gX3_chooseBank_X0_number rfl rfl rfl (by decide +kernel) ⟨Nat.le_of_ble_eq_true rfl, Nat.le_of_ble_eq_true rfl⟩) E hP hD hS [2, 3] [0, 1, 4, 5, 6] [0, 1, 5, 6, 2, 3, 4] rfl rfl rfl rfl (by decide) rfl rfl 0 0 rfl rfl rfl hl.1 rfl (Nat.le_of_ble_eq_true rfl) dX3_chooseBank_31 ⟨Nat.zero_le _, Nat.zero_le _⟩ (fun H locs hP hD hS => ?_)
  refine W.eq (g2 := F0 m 34 ls [.long r_7, .long r_5]) rfl ?_
  refine W.lcmp hx hb dX3_chooseBank_34 ?_
  refine lv_if_le (tgt := 42) hx hb dX3_chooseBank_35 (by decide) (fun c_9 => ?_) (fun c_9 => ?_)
  · have hf := ifp hf c_9
    refine lv_iconst (v := (0 : Int32)) hx hb dX3_chooseBank_42 (by decide) ?_
    refine lv_istore_n (lv' := [(3, .int (0 : Int32)), (2, .int (zb r_3)), (1, .int (zb r_1)), (0, .ref aj)]) hx hb dX3_chooseBank_43 rfl hl (by decide) rfl (fun ls hl => ?_)
    refine lv_aload_n hx hb dX3_chooseBank_44 rfl (lv_at hl 3 rfl) ?_
    refine lv_iload_n hx hb dX3_chooseBank_45 rfl (lv_at hl 1 rfl) ?_
    refine lv_if_eq (tgt := 61) hx hb dX3_chooseBank_46 (by decide) (fun c_10 => ?_) (fun c_10 => ?_)
    · have hf := ifp hf c_10
      refine lv_iconst (v := (0 : Int32)) hx hb dX3_chooseBank_61 (by decide) ?_
      refine va_put (D := D) (ci := 2) (v := .int (0 : Int32)) (ty := .int) (C := RX3) (T := TX3) (N := 6) hx hb hts iX3 tyX3 tyX3_ok nmX3 hown hK hP hD hS 0 rfl rfl 4 (by decide) (hts (.fieldLink RX3 9 "SampleTracker$Journal" "inUse" "I") (by decide +kernel)) (fun _ h9 => h9) rfl (by decide +kernel) rfl rfl (Nat.le_of_ble_eq_true rfl) dX3_chooseBank_62 (fun H locs hP hD hS => ?_)
      have hP : va_P D vwCl [(aj, .inr (2, [.ref aw, .ref k1, .ref k2, .ref ap, .int (0 : Int32), .int en])), (aw, .inr (5, [.int (zb up), .int (zb cw), .int bl, .int wr, .int fa])), (k1, .inr (0, [.ref r1])), (r1, .inl (y 0, nb, .inl b1)), (k2, .inr (0, [.ref r2])), (r2, .inl (y 0, nb, .inl b2)), (ap, .inr (4, [.ref aw, .ref pb, .int pos, .int crc]))] H := hP
      have hD : va_D A [(aj, .inr (2, [.ref aw, .ref k1, .ref k2, .ref ap, .int (0 : Int32), .int en])), (aw, .inr (5, [.int (zb up), .int (zb cw), .int bl, .int wr, .int fa])), (k1, .inr (0, [.ref r1])), (r1, .inl (y 0, nb, .inl b1)), (k2, .inr (0, [.ref r2])), (r2, .inl (y 0, nb, .inl b2)), (ap, .inr (4, [.ref aw, .ref pb, .int pos, .int crc]))] := hD
      refine lv_aload_n hx hb dX3_chooseBank_65 rfl (lv_at hl 3 rfl) ?_
      refine lv_bipush (v := (9 : Int32)) hx hb dX3_chooseBank_66 (by decide) ?_
      refine va_put (D := D) (ci := 2) (v := .int (9 : Int32)) (ty := .int) (C := RX3) (T := TX3) (N := 6) hx hb hts iX3 tyX3 tyX3_ok nmX3 hown hK hP hD hS 0 rfl rfl 5 (by decide) (hts (.fieldLink RX3 15 "SampleTracker$Journal" "end" "I") (by decide +kernel)) (fun _ h9 => h9) rfl (by decide +kernel) rfl rfl (Nat.le_of_ble_eq_true rfl) dX3_chooseBank_68 (fun H locs hP hD hS => ?_)
      have hP : va_P D vwCl [(aj, .inr (2, [.ref aw, .ref k1, .ref k2, .ref ap, .int (0 : Int32), .int (9 : Int32)])), (aw, .inr (5, [.int (zb up), .int (zb cw), .int bl, .int wr, .int fa])), (k1, .inr (0, [.ref r1])), (r1, .inl (y 0, nb, .inl b1)), (k2, .inr (0, [.ref r2])), (r2, .inl (y 0, nb, .inl b2)), (ap, .inr (4, [.ref aw, .ref pb, .int pos, .int crc]))] H := hP
      have hD : va_D A [(aj, .inr (2, [.ref aw, .ref k1, .ref k2, .ref ap, .int (0 : Int32), .int (9 : Int32)])), (aw, .inr (5, [.int (zb up), .int (zb cw), .int bl, .int wr, .int fa])), (k1, .inr (0, [.ref r1])), (r1, .inl (y 0, nb, .inl b1)), (k2, .inr (0, [.ref r2])), (r2, .inl (y 0, nb, .inl b2)), (ap, .inr (4, [.ref aw, .ref pb, .int pos, .int crc]))] := hD
      obtain rfl := Option.some.inj hf
      exact W.vret hx hb hr (fun t ht hW => ⟨⟨(), rfl, by rw [ht]; exact hP, hD⟩, hS.F ht⟩) hS.2.2 dX3_chooseBank_71
    · have hf := ifn hf c_10
      refine lv_iload_n hx hb dX3_chooseBank_49 rfl (lv_at hl 0 rfl) ?_
      refine lv_if_ne (tgt := 57) hx hb dX3_chooseBank_50 (by decide) (fun c_11 => absurd (by decide) c_11) (fun c_11 => ?_)
      refine lv_iload_n hx hb dX3_chooseBank_53 rfl (lv_at hl 2 rfl) ?_
      refine lv_if_ne (tgt := 61) hx hb dX3_chooseBank_54 (by decide) (fun c_12 => ?_) (fun c_12 => ?_)
      · have hf := ifn hf c_12
        refine lv_iconst (v := (0 : Int32)) hx hb dX3_chooseBank_61 (by decide) ?_
        refine va_put (D := D) (ci := 2) (v := .int (0 : Int32)) (ty := .int) (C := RX3) (T := TX3) (N := 6) hx hb hts iX3 tyX3 tyX3_ok nmX3 hown hK hP hD hS 0 rfl rfl 4 (by decide) (hts (.fieldLink RX3 9 "SampleTracker$Journal" "inUse" "I") (by decide +kernel)) (fun _ h9 => h9) rfl (by decide +kernel) rfl rfl (Nat.le_of_ble_eq_true rfl) dX3_chooseBank_62 (fun H locs hP hD hS => ?_)
        have hP : va_P D vwCl [(aj, .inr (2, [.ref aw, .ref k1, .ref k2, .ref ap, .int (0 : Int32), .int en])), (aw, .inr (5, [.int (zb up), .int (zb cw), .int bl, .int wr, .int fa])), (k1, .inr (0, [.ref r1])), (r1, .inl (y 0, nb, .inl b1)), (k2, .inr (0, [.ref r2])), (r2, .inl (y 0, nb, .inl b2)), (ap, .inr (4, [.ref aw, .ref pb, .int pos, .int crc]))] H := hP
        have hD : va_D A [(aj, .inr (2, [.ref aw, .ref k1, .ref k2, .ref ap, .int (0 : Int32), .int en])), (aw, .inr (5, [.int (zb up), .int (zb cw), .int bl, .int wr, .int fa])), (k1, .inr (0, [.ref r1])), (r1, .inl (y 0, nb, .inl b1)), (k2, .inr (0, [.ref r2])), (r2, .inl (y 0, nb, .inl b2)), (ap, .inr (4, [.ref aw, .ref pb, .int pos, .int crc]))] := hD
        refine lv_aload_n hx hb dX3_chooseBank_65 rfl (lv_at hl 3 rfl) ?_
        refine lv_bipush (v := (9 : Int32)) hx hb dX3_chooseBank_66 (by decide) ?_
        refine va_put (D := D) (ci := 2) (v := .int (9 : Int32)) (ty := .int) (C := RX3) (T := TX3) (N := 6) hx hb hts iX3 tyX3 tyX3_ok nmX3 hown hK hP hD hS 0 rfl rfl 5 (by decide) (hts (.fieldLink RX3 15 "SampleTracker$Journal" "end" "I") (by decide +kernel)) (fun _ h9 => h9) rfl (by decide +kernel) rfl rfl (Nat.le_of_ble_eq_true rfl) dX3_chooseBank_68 (fun H locs hP hD hS => ?_)
        have hP : va_P D vwCl [(aj, .inr (2, [.ref aw, .ref k1, .ref k2, .ref ap, .int (0 : Int32), .int (9 : Int32)])), (aw, .inr (5, [.int (zb up), .int (zb cw), .int bl, .int wr, .int fa])), (k1, .inr (0, [.ref r1])), (r1, .inl (y 0, nb, .inl b1)), (k2, .inr (0, [.ref r2])), (r2, .inl (y 0, nb, .inl b2)), (ap, .inr (4, [.ref aw, .ref pb, .int pos, .int crc]))] H := hP
        have hD : va_D A [(aj, .inr (2, [.ref aw, .ref k1, .ref k2, .ref ap, .int (0 : Int32), .int (9 : Int32)])), (aw, .inr (5, [.int (zb up), .int (zb cw), .int bl, .int wr, .int fa])), (k1, .inr (0, [.ref r1])), (r1, .inl (y 0, nb, .inl b1)), (k2, .inr (0, [.ref r2])), (r2, .inl (y 0, nb, .inl b2)), (ap, .inr (4, [.ref aw, .ref pb, .int pos, .int crc]))] := hD
        obtain rfl := Option.some.inj hf
        exact W.vret hx hb hr (fun t ht hW => ⟨⟨(), rfl, by rw [ht]; exact hP, hD⟩, hS.F ht⟩) hS.2.2 dX3_chooseBank_71
      · have hf := ifp hf c_12
        refine lv_iconst (v := (1 : Int32)) hx hb dX3_chooseBank_57 (by decide) ?_
        refine lv_goto (tgt := 62) hx hb dX3_chooseBank_58 (by decide) ?_
        refine va_put (D := D) (ci := 2) (v := .int (1 : Int32)) (ty := .int) (C := RX3) (T := TX3) (N := 6) hx hb hts iX3 tyX3 tyX3_ok nmX3 hown hK hP hD hS 0 rfl rfl 4 (by decide) (hts (.fieldLink RX3 9 "SampleTracker$Journal" "inUse" "I") (by decide +kernel)) (fun _ h9 => h9) rfl (by decide +kernel) rfl rfl (Nat.le_of_ble_eq_true rfl) dX3_chooseBank_62 (fun H locs hP hD hS => ?_)
        have hP : va_P D vwCl [(aj, .inr (2, [.ref aw, .ref k1, .ref k2, .ref ap, .int (1 : Int32), .int en])), (aw, .inr (5, [.int (zb up), .int (zb cw), .int bl, .int wr, .int fa])), (k1, .inr (0, [.ref r1])), (r1, .inl (y 0, nb, .inl b1)), (k2, .inr (0, [.ref r2])), (r2, .inl (y 0, nb, .inl b2)), (ap, .inr (4, [.ref aw, .ref pb, .int pos, .int crc]))] H := hP
        have hD : va_D A [(aj, .inr (2, [.ref aw, .ref k1, .ref k2, .ref ap, .int (1 : Int32), .int en])), (aw, .inr (5, [.int (zb up), .int (zb cw), .int bl, .int wr, .int fa])), (k1, .inr (0, [.ref r1])), (r1, .inl (y 0, nb, .inl b1)), (k2, .inr (0, [.ref r2])), (r2, .inl (y 0, nb, .inl b2)), (ap, .inr (4, [.ref aw, .ref pb, .int pos, .int crc]))] := hD
        refine lv_aload_n hx hb dX3_chooseBank_65 rfl (lv_at hl 3 rfl) ?_
        refine lv_bipush (v := (9 : Int32)) hx hb dX3_chooseBank_66 (by decide) ?_
        refine va_put (D := D) (ci := 2) (v := .int (9 : Int32)) (ty := .int) (C := RX3) (T := TX3) (N := 6) hx hb hts iX3 tyX3 tyX3_ok nmX3 hown hK hP hD hS 0 rfl rfl 5 (by decide) (hts (.fieldLink RX3 15 "SampleTracker$Journal" "end" "I") (by decide +kernel)) (fun _ h9 => h9) rfl (by decide +kernel) rfl rfl (Nat.le_of_ble_eq_true rfl) dX3_chooseBank_68 (fun H locs hP hD hS => ?_)
        have hP : va_P D vwCl [(aj, .inr (2, [.ref aw, .ref k1, .ref k2, .ref ap, .int (1 : Int32), .int (9 : Int32)])), (aw, .inr (5, [.int (zb up), .int (zb cw), .int bl, .int wr, .int fa])), (k1, .inr (0, [.ref r1])), (r1, .inl (y 0, nb, .inl b1)), (k2, .inr (0, [.ref r2])), (r2, .inl (y 0, nb, .inl b2)), (ap, .inr (4, [.ref aw, .ref pb, .int pos, .int crc]))] H := hP
        have hD : va_D A [(aj, .inr (2, [.ref aw, .ref k1, .ref k2, .ref ap, .int (1 : Int32), .int (9 : Int32)])), (aw, .inr (5, [.int (zb up), .int (zb cw), .int bl, .int wr, .int fa])), (k1, .inr (0, [.ref r1])), (r1, .inl (y 0, nb, .inl b1)), (k2, .inr (0, [.ref r2])), (r2, .inl (y 0, nb, .inl b2)), (ap, .inr (4, [.ref aw, .ref pb, .int pos, .int crc]))] := hD
        obtain rfl := Option.some.inj hf
        exact W.vret hx hb hr (fun t ht hW => ⟨⟨(), rfl, by rw [ht]; exact hP, hD⟩, hS.F ht⟩) hS.2.2 dX3_chooseBank_71
  · have hf := ifn hf c_9
    refine lv_iconst (v := (1 : Int32)) hx hb dX3_chooseBank_38 (by decide) ?_
    refine lv_goto (tgt := 43) hx hb dX3_chooseBank_39 (by decide) ?_
    refine lv_istore_n (lv' := [(3, .int (1 : Int32)), (2, .int (zb r_3)), (1, .int (zb r_1)), (0, .ref aj)]) hx hb dX3_chooseBank_43 rfl hl (by decide) rfl (fun ls hl => ?_)
    refine lv_aload_n hx hb dX3_chooseBank_44 rfl (lv_at hl 3 rfl) ?_
    refine lv_iload_n hx hb dX3_chooseBank_45 rfl (lv_at hl 1 rfl) ?_
    refine lv_if_eq (tgt := 61) hx hb dX3_chooseBank_46 (by decide) (fun c_13 => ?_) (fun c_13 => ?_)
    · have hf := ifp hf c_13
      refine lv_iconst (v := (0 : Int32)) hx hb dX3_chooseBank_61 (by decide) ?_
      refine va_put (D := D) (ci := 2) (v := .int (0 : Int32)) (ty := .int) (C := RX3) (T := TX3) (N := 6) hx hb hts iX3 tyX3 tyX3_ok nmX3 hown hK hP hD hS 0 rfl rfl 4 (by decide) (hts (.fieldLink RX3 9 "SampleTracker$Journal" "inUse" "I") (by decide +kernel)) (fun _ h9 => h9) rfl (by decide +kernel) rfl rfl (Nat.le_of_ble_eq_true rfl) dX3_chooseBank_62 (fun H locs hP hD hS => ?_)
      have hP : va_P D vwCl [(aj, .inr (2, [.ref aw, .ref k1, .ref k2, .ref ap, .int (0 : Int32), .int en])), (aw, .inr (5, [.int (zb up), .int (zb cw), .int bl, .int wr, .int fa])), (k1, .inr (0, [.ref r1])), (r1, .inl (y 0, nb, .inl b1)), (k2, .inr (0, [.ref r2])), (r2, .inl (y 0, nb, .inl b2)), (ap, .inr (4, [.ref aw, .ref pb, .int pos, .int crc]))] H := hP
      have hD : va_D A [(aj, .inr (2, [.ref aw, .ref k1, .ref k2, .ref ap, .int (0 : Int32), .int en])), (aw, .inr (5, [.int (zb up), .int (zb cw), .int bl, .int wr, .int fa])), (k1, .inr (0, [.ref r1])), (r1, .inl (y 0, nb, .inl b1)), (k2, .inr (0, [.ref r2])), (r2, .inl (y 0, nb, .inl b2)), (ap, .inr (4, [.ref aw, .ref pb, .int pos, .int crc]))] := hD
      refine lv_aload_n hx hb dX3_chooseBank_65 rfl (lv_at hl 3 rfl) ?_
      refine lv_bipush (v := (9 : Int32)) hx hb dX3_chooseBank_66 (by decide) ?_
      refine va_put (D := D) (ci := 2) (v := .int (9 : Int32)) (ty := .int) (C := RX3) (T := TX3) (N := 6) hx hb hts iX3 tyX3 tyX3_ok nmX3 hown hK hP hD hS 0 rfl rfl 5 (by decide) (hts (.fieldLink RX3 15 "SampleTracker$Journal" "end" "I") (by decide +kernel)) (fun _ h9 => h9) rfl (by decide +kernel) rfl rfl (Nat.le_of_ble_eq_true rfl) dX3_chooseBank_68 (fun H locs hP hD hS => ?_)
      have hP : va_P D vwCl [(aj, .inr (2, [.ref aw, .ref k1, .ref k2, .ref ap, .int (0 : Int32), .int (9 : Int32)])), (aw, .inr (5, [.int (zb up), .int (zb cw), .int bl, .int wr, .int fa])), (k1, .inr (0, [.ref r1])), (r1, .inl (y 0, nb, .inl b1)), (k2, .inr (0, [.ref r2])), (r2, .inl (y 0, nb, .inl b2)), (ap, .inr (4, [.ref aw, .ref pb, .int pos, .int crc]))] H := hP
      have hD : va_D A [(aj, .inr (2, [.ref aw, .ref k1, .ref k2, .ref ap, .int (0 : Int32), .int (9 : Int32)])), (aw, .inr (5, [.int (zb up), .int (zb cw), .int bl, .int wr, .int fa])), (k1, .inr (0, [.ref r1])), (r1, .inl (y 0, nb, .inl b1)), (k2, .inr (0, [.ref r2])), (r2, .inl (y 0, nb, .inl b2)), (ap, .inr (4, [.ref aw, .ref pb, .int pos, .int crc]))] := hD
      obtain rfl := Option.some.inj hf
      exact W.vret hx hb hr (fun t ht hW => ⟨⟨(), rfl, by rw [ht]; exact hP, hD⟩, hS.F ht⟩) hS.2.2 dX3_chooseBank_71
    · have hf := ifn hf c_13
      refine lv_iload_n hx hb dX3_chooseBank_49 rfl (lv_at hl 0 rfl) ?_
      refine lv_if_ne (tgt := 57) hx hb dX3_chooseBank_50 (by decide) (fun c_14 => ?_) (fun c_14 => absurd c_14 (by decide))
      refine lv_iconst (v := (1 : Int32)) hx hb dX3_chooseBank_57 (by decide) ?_
      refine lv_goto (tgt := 62) hx hb dX3_chooseBank_58 (by decide) ?_
      refine va_put (D := D) (ci := 2) (v := .int (1 : Int32)) (ty := .int) (C := RX3) (T := TX3) (N := 6) hx hb hts iX3 tyX3 tyX3_ok nmX3 hown hK hP hD hS 0 rfl rfl 4 (by decide) (hts (.fieldLink RX3 9 "SampleTracker$Journal" "inUse" "I") (by decide +kernel)) (fun _ h9 => h9) rfl (by decide +kernel) rfl rfl (Nat.le_of_ble_eq_true rfl) dX3_chooseBank_62 (fun H locs hP hD hS => ?_)
      have hP : va_P D vwCl [(aj, .inr (2, [.ref aw, .ref k1, .ref k2, .ref ap, .int (1 : Int32), .int en])), (aw, .inr (5, [.int (zb up), .int (zb cw), .int bl, .int wr, .int fa])), (k1, .inr (0, [.ref r1])), (r1, .inl (y 0, nb, .inl b1)), (k2, .inr (0, [.ref r2])), (r2, .inl (y 0, nb, .inl b2)), (ap, .inr (4, [.ref aw, .ref pb, .int pos, .int crc]))] H := hP
      have hD : va_D A [(aj, .inr (2, [.ref aw, .ref k1, .ref k2, .ref ap, .int (1 : Int32), .int en])), (aw, .inr (5, [.int (zb up), .int (zb cw), .int bl, .int wr, .int fa])), (k1, .inr (0, [.ref r1])), (r1, .inl (y 0, nb, .inl b1)), (k2, .inr (0, [.ref r2])), (r2, .inl (y 0, nb, .inl b2)), (ap, .inr (4, [.ref aw, .ref pb, .int pos, .int crc]))] := hD
      refine lv_aload_n hx hb dX3_chooseBank_65 rfl (lv_at hl 3 rfl) ?_
      refine lv_bipush (v := (9 : Int32)) hx hb dX3_chooseBank_66 (by decide) ?_
      refine va_put (D := D) (ci := 2) (v := .int (9 : Int32)) (ty := .int) (C := RX3) (T := TX3) (N := 6) hx hb hts iX3 tyX3 tyX3_ok nmX3 hown hK hP hD hS 0 rfl rfl 5 (by decide) (hts (.fieldLink RX3 15 "SampleTracker$Journal" "end" "I") (by decide +kernel)) (fun _ h9 => h9) rfl (by decide +kernel) rfl rfl (Nat.le_of_ble_eq_true rfl) dX3_chooseBank_68 (fun H locs hP hD hS => ?_)
      have hP : va_P D vwCl [(aj, .inr (2, [.ref aw, .ref k1, .ref k2, .ref ap, .int (1 : Int32), .int (9 : Int32)])), (aw, .inr (5, [.int (zb up), .int (zb cw), .int bl, .int wr, .int fa])), (k1, .inr (0, [.ref r1])), (r1, .inl (y 0, nb, .inl b1)), (k2, .inr (0, [.ref r2])), (r2, .inl (y 0, nb, .inl b2)), (ap, .inr (4, [.ref aw, .ref pb, .int pos, .int crc]))] H := hP
      have hD : va_D A [(aj, .inr (2, [.ref aw, .ref k1, .ref k2, .ref ap, .int (1 : Int32), .int (9 : Int32)])), (aw, .inr (5, [.int (zb up), .int (zb cw), .int bl, .int wr, .int fa])), (k1, .inr (0, [.ref r1])), (r1, .inl (y 0, nb, .inl b1)), (k2, .inr (0, [.ref r2])), (r2, .inl (y 0, nb, .inl b2)), (ap, .inr (4, [.ref aw, .ref pb, .int pos, .int crc]))] := hD
      obtain rfl := Option.some.inj hf
      exact W.vret hx hb hr (fun t ht hW => ⟨⟨(), rfl, by rw [ht]; exact hP, hD⟩, hS.F ht⟩) hS.2.2 dX3_chooseBank_71

def fX3_readNext (nb : Nat) (b1 : Nat → Int32) (b2 : Nat → Int32) (iu : Int32) (en : Int32) (ek : Int32) (es : Int32) (ew : Int32) (ev : Int64) : Option (Bool × Int32 × Int32 × Int32 × Int32 × Int64) := (if iu = 0 then ((fX0_wholeRecordAt nb b1 en).bind fun r_3 => (if r_3 = 0 then some (false, en, ek, es, ew, ev) else ((fX2_readFrom nb b1 en).bind fun (o_ek_7, o_es_8, o_ew_9, o_ev_10) => some (true, (en + r_3), o_ek_7, o_es_8, o_ew_9, o_ev_10)))) else ((fX0_wholeRecordAt nb b2 en).bind fun r_13 => (if r_13 = 0 then some (false, en, ek, es, ew, ev) else ((fX2_readFrom nb b2 en).bind fun (o_ek_17, o_es_18, o_ew_19, o_ev_20) => some (true, (en + r_13), o_ek_17, o_es_18, o_ew_19, o_ev_20)))))

set_option maxHeartbeats 4000000 in
set_option maxRecDepth 100000 in
theorem cX3_readNext_ok (l : Launch) (D : va_G) (y : Nat → ClassId) (aj : Nat) (aw : Nat) (k1 : Nat) (r1 : Nat) (k2 : Nat) (r2 : Nat) (ap : Nat) (ae : Nat) (up : Bool) (cw : Bool) (bl : Int32) (wr : Int32) (fa : Int32) (pb : Nat) (pos : Int32) (crc : Int32) (nb : Nat) (b1 : Nat → Int32) (b2 : Nat → Int32) (iu : Int32) (en : Int32) (ek : Int32) (es : Int32) (ew : Int32) (ev : Int64) (res : Bool × Int32 × Int32 × Int32 × Int32 × Int64) (hf : fX3_readNext nb b1 b2 iu en ek es ew ev = some res) : CT l D y yX3_readNext wsX3_readNext ({ frames := 4, cells := 0, slots := 0, locals := 94 } : Room) [.ref aj, .ref ae] [(aj, .inr (2, [.ref aw, .ref k1, .ref k2, .ref ap, .int iu, .int en])), (aw, .inr (5, [.int (zb up), .int (zb cw), .int bl, .int wr, .int fa])), (k1, .inr (0, [.ref r1])), (r1, .inl (y 0, nb, .inl b1)), (k2, .inr (0, [.ref r2])), (r2, .inl (y 0, nb, .inl b2)), (ap, .inr (4, [.ref aw, .ref pb, .int pos, .int crc])), (ae, .inr (1, [.int ek, .int es, .int ew, .long ev]))] (some (.int (zb res.1))) [(aj, .inr (2, [.ref aw, .ref k1, .ref k2, .ref ap, .int iu, .int res.2.1])), (aw, .inr (5, [.int (zb up), .int (zb cw), .int bl, .int wr, .int fa])), (k1, .inr (0, [.ref r1])), (r1, .inl (y 0, nb, .inl b1)), (k2, .inr (0, [.ref r2])), (r2, .inl (y 0, nb, .inl b2)), (ap, .inr (4, [.ref aw, .ref pb, .int pos, .int crc])), (ae, .inr (1, [.int res.2.2.1, .int res.2.2.2.1, .int res.2.2.2.2.1, .long res.2.2.2.2.2]))] := by
  intro sz
  refine Met.ofW (cc := cX3_readNext) (maxL := 3) (ret := (some .boolean)) (by decide) rfl ?_
  intro p e s m args below meth c s₁ B hml hv
  obtain ⟨rfl, hsz, hP, hK, hD0, hst, hno⟩ := hv
  have hx := B.exec
  have hb := B.bytes
  have hr := B.returns
  have hts := atoms_spec (ws := wsX3_readNext) B.pre
  have hown : s.vm.findClass RX3 = some m.cls := findClass_of_methodNamed B.named
  have hlocks := B.notSynchronized
  subst hsz
  have hD := hD0.self (sz := s.heap.size)
  generalize hAe : va_A [(aj, .inr (2, [.ref aw, .ref k1, .ref k2, .ref ap, .int iu, .int en])), (aw, .inr (5, [.int (zb up), .int (zb cw), .int bl, .int wr, .int fa])), (k1, .inr (0, [.ref r1])), (r1, .inl (y 0, nb, .inl b1)), (k2, .inr (0, [.ref r2])), (r2, .inl (y 0, nb, .inl b2)), (ap, .inr (4, [.ref aw, .ref pb, .int pos, .int crc])), (ae, .inr (1, [.int ek, .int es, .int ew, .long ev]))] s.heap.size = A at hD hst ⊢
  have hA : ∀ q : Nat, s.heap.size ≤ q → A q := fun q h => by rw [← hAe]; exact Or.inr h
  have hS : va_S A s.heap s.heap [] := va_S.rf
  have E : Ev D y A s := ⟨hK, hst, hno, hA⟩
  have hfix : CallFix p m c cX3_readNext 3 s _ wsX3_readNext RX3 := ⟨hx, hb, hml, hown, hts⟩
  have hP : va_P D vwCl [(aj, .inr (2, [.ref aw, .ref k1, .ref k2, .ref ap, .int iu, .int en])), (aw, .inr (5, [.int (zb up), .int (zb cw), .int bl, .int wr, .int fa])), (k1, .inr (0, [.ref r1])), (r1, .inl (y 0, nb, .inl b1)), (k2, .inr (0, [.ref r2])), (r2, .inl (y 0, nb, .inl b2)), (ap, .inr (4, [.ref aw, .ref pb, .int pos, .int crc])), (ae, .inr (1, [.int ek, .int es, .int ew, .long ev]))] s.heap := hP
  have iX3 : ∀ w ∈ wsX30, w ∈ wsX3_readNext := by decide +kernel
  have hl := lv_entry ([.ref aj, .ref ae]) (n := 3) (Nat.le_of_ble_eq_true rfl)
  rw [lg_entry_eq]
  generalize (lg_sl ([.ref aj, .ref ae]) ++ List.replicate (3 - (lg_sl ([.ref aj, .ref ae])).length) Slot.unset).toArray = ls at hl ⊢
  have hl : lv_has ls 3 [(0, .ref aj), (1, .ref ae)] := hl
  unfold fX3_readNext at hf
  refine lv_aload_n hx hb dX3_readNext_0 rfl (lv_at hl 0 rfl) ?_
  refine lv_aload_n hx hb dX3_readNext_1 rfl (lv_at hl 0 rfl) ?_
  refine va_get (D := D) (ci := 2) (v := .int iu) (C := RX3) (T := TX3) (N := 6) hx hb hts iX3 hown hK hP 0 rfl rfl 4 (by decide) (hts (.fieldLink RX3 9 "SampleTracker$Journal" "inUse" "I") (by decide +kernel)) (fun _ h9 => h9) rfl dX3_readNext_2 ?_
  by_cases c_1 : iu = 0
  · have hf := ifp hf c_1
    refine ct_V (As := [.int iu]) (rest := []) (wr := [(ae, .inr (1, [.int ek, .int es, .int ew, .long ev]))]) (wn := [(aj, .inr (2, [.ref aw, .ref k1, .ref k2, .ref ap, .int iu, .int en])), (aw, .inr (5, [.int (zb up), .int (zb cw), .int bl, .int wr, .int fa])), (k1, .inr (0, [.ref r1])), (r1, .inl (y 0, nb, .inl b1)), (k2, .inr (0, [.ref r2])), (r2, .inl (y 0, nb, .inl b2)), (ap, .inr (4, [.ref aw, .ref pb, .int pos, .int crc])), (ae, .inr (1, [.int ek, .int es, .int ew, .long ev]))]) hfix (cX3_bank_1_ok l D y aj aw k1 r1 k2 r2 ap up cw bl wr fa pb pos crc nb b1 b2 iu en iu c_1) (cwV 1 hts gX3_readNext_X3_bank rfl rfl rfl (by decide +kernel) ⟨Nat.le_of_ble_eq_true rfl, Nat.le_of_ble_eq_true rfl⟩) E hP hD hS [0, 1, 2, 3, 4, 5, 6] [7] [1, 2, 3, 4, 5, 6, 7, 0] rfl rfl rfl rfl (by decide) rfl rfl 0 2 rfl rfl rfl hl.1 rfl (Nat.le_of_ble_eq_true rfl) dX3_readNext_5 ⟨Nat.zero_le _, Nat.zero_le _⟩ (fun H locs hP hD hS => ?_)
    refine W.eq (g2 := F0 m 8 ls [.ref k1]) rfl ?_
    refine lv_aload_n hx hb dX3_readNext_8 rfl (lv_at hl 0 rfl) ?_
    refine va_get (D := D) (ci := 2) (v := .int en) (C := RX3) (T := TX3) (N := 6) hx hb hts iX3 hown hK hP 0 rfl rfl 5 (by decide) (hts (.fieldLink RX3 15 "SampleTracker$Journal" "end" "I") (by decide +kernel)) (fun _ h9 => h9) rfl dX3_readNext_9 ?_
    obtain ⟨r_3, hc_4, hf⟩ := obd hf
    refine ct_V (As := [.int en]) (rest := []) (wr := [(aj, .inr (2, [.ref aw, .ref k1, .ref k2, .ref ap, .int iu, .int en])), (aw, .inr (5, [.int (zb up), .int (zb cw), .int bl, .int wr, .int fa])), (k2, .inr (0, [.ref r2])), (r2, .inl (y 0, nb, .inl b2)), (ap, .inr (4, [.ref aw, .ref pb, .int pos, .int crc])), (ae, .inr (1, [.int ek, .int es, .int ew, .long ev]))]) (wn := [(aj, .inr (2, [.ref aw, .ref k1, .ref k2, .ref ap, .int iu, .int en])), (aw, .inr (5, [.int (zb up), .int (zb cw), .int bl, .int wr, .int fa])), (k1, .inr (0, [.ref r1])), (r1, .inl (y 0, nb, .inl b1)), (k2, .inr (0, [.ref r2])), (r2, .inl (y 0, nb, .inl b2)), (ap, .inr (4, [.ref aw, .ref pb, .int pos, .int crc])), (ae, .inr (1, [.int ek, .int es, .int ew, .long ev]))]) hfix (cX0_wholeRecordAt_ok l D y k1 r1 nb b1 en _ hc_4) (cwV 1 hts gX3_readNext_X0_wholeRecordAt rfl rfl rfl (by decide +kernel) ⟨Nat.le_of_ble_eq_true rfl, Nat.le_of_ble_eq_true rfl⟩) E hP hD hS [2, 3] [0, 1, 4, 5, 6, 7] [0, 1, 6, 7, 2, 3, 4, 5] rfl rfl rfl rfl (by decide) rfl rfl 0 0 rfl rfl rfl hl.1 rfl (Nat.le_of_ble_eq_true rfl) dX3_readNext_12 ⟨Nat.zero_le _, Nat.zero_le _⟩ (fun H locs hP hD hS => ?_)
    refine W.eq (g2 := F0 m 15 ls [.int r_3]) rfl ?_
    refine lv_istore_n (lv' := [(2, .int r_3), (0, .ref aj), (1, .ref ae)]) hx hb dX3_readNext_15 rfl hl (by decide) rfl (fun ls hl => ?_)
    refine lv_iload_n hx hb dX3_readNext_16 rfl (lv_at hl 0 rfl) ?_
    refine lv_if_ne (tgt := 22) hx hb dX3_readNext_17 (by decide) (fun c_5 => ?_) (fun c_5 => ?_)
    · have hf := ifn hf c_5
      refine lv_aload_n hx hb dX3_readNext_22 rfl (lv_at hl 2 rfl) ?_
      refine lv_aload_n hx hb dX3_readNext_23 rfl (lv_at hl 1 rfl) ?_
      refine lv_aload_n hx hb dX3_readNext_24 rfl (lv_at hl 1 rfl) ?_
      refine va_get (D := D) (ci := 2) (v := .int iu) (C := RX3) (T := TX3) (N := 6) hx hb hts iX3 hown hK hP 0 rfl rfl 4 (by decide) (hts (.fieldLink RX3 9 "SampleTracker$Journal" "inUse" "I") (by decide +kernel)) (fun _ h9 => h9) rfl dX3_readNext_25 ?_
      refine ct_V (As := [.int iu]) (rest := [.ref ae]) (wr := [(ae, .inr (1, [.int ek, .int es, .int ew, .long ev]))]) (wn := [(aj, .inr (2, [.ref aw, .ref k1, .ref k2, .ref ap, .int iu, .int en])), (aw, .inr (5, [.int (zb up), .int (zb cw), .int bl, .int wr, .int fa])), (k1, .inr (0, [.ref r1])), (r1, .inl (y 0, nb, .inl b1)), (k2, .inr (0, [.ref r2])), (r2, .inl (y 0, nb, .inl b2)), (ap, .inr (4, [.ref aw, .ref pb, .int pos, .int crc])), (ae, .inr (1, [.int ek, .int es, .int ew, .long ev]))]) hfix (cX3_bank_1_ok l D y aj aw k1 r1 k2 r2 ap up cw bl wr fa pb pos crc nb b1 b2 iu en iu c_1) (cwV 1 hts gX3_readNext_X3_bank rfl rfl rfl (by decide +kernel) ⟨Nat.le_of_ble_eq_true rfl, Nat.le_of_ble_eq_true rfl⟩) E hP hD hS [0, 1, 2, 3, 4, 5, 6] [7] [1, 2, 3, 4, 5, 6, 7, 0] rfl rfl rfl rfl (by decide) rfl rfl 0 2 rfl rfl rfl hl.1 rfl (Nat.le_of_ble_eq_true rfl) dX3_readNext_28 ⟨Nat.zero_le _, Nat.zero_le _⟩ (fun H locs hP hD hS => ?_)
      refine W.eq (g2 := F0 m 31 ls [.ref k1, .ref ae]) rfl ?_
      refine lv_aload_n hx hb dX3_readNext_31 rfl (lv_at hl 1 rfl) ?_
      refine va_get (D := D) (ci := 2) (v := .int en) (C := RX3) (T := TX3) (N := 6) hx hb hts iX3 hown hK hP 0 rfl rfl 5 (by decide) (hts (.fieldLink RX3 15 "SampleTracker$Journal" "end" "I") (by decide +kernel)) (fun _ h9 => h9) rfl dX3_readNext_32 ?_
      obtain ⟨⟨o_ek_7, o_es_8, o_ew_9, o_ev_10⟩, hc_11, hf⟩ := obd hf
      refine ct_V (As := [.ref k1, .int en]) (rest := []) (wr := [(aj, .inr (2, [.ref aw, .ref k1, .ref k2, .ref ap, .int iu, .int en])), (aw, .inr (5, [.int (zb up), .int (zb cw), .int bl, .int wr, .int fa])), (k2, .inr (0, [.ref r2])), (r2, .inl (y 0, nb, .inl b2)), (ap, .inr (4, [.ref aw, .ref pb, .int pos, .int crc]))]) (wn := [(aj, .inr (2, [.ref aw, .ref k1, .ref k2, .ref ap, .int iu, .int en])), (aw, .inr (5, [.int (zb up), .int (zb cw), .int bl, .int wr, .int fa])), (k1, .inr (0, [.ref r1])), (r1, .inl (y 0, nb, .inl b1)), (k2, .inr (0, [.ref r2])), (r2, .inl (y 0, nb, .inl b2)), (ap, .inr (4, [.ref aw, .ref pb, .int pos, .int crc])), (ae, .inr (1, [.int o_ek_7, .int o_es_8, .int o_ew_9, .long o_ev_10]))]) hfix (cX2_readFrom_ok l D y ae k1 r1 nb b1 ek es ew ev en _ hc_11) (cwV 2 hts gX3_readNext_X2_readFrom rfl rfl rfl (by decide +kernel) ⟨Nat.le_of_ble_eq_true rfl, Nat.le_of_ble_eq_true rfl⟩) E hP hD hS [7, 2, 3] [0, 1, 4, 5, 6] [0, 1, 6, 7, 2, 3, 4, 5] rfl rfl rfl rfl (by decide) rfl rfl 0 1 rfl rfl rfl hl.1 rfl (Nat.le_of_ble_eq_true rfl) dX3_readNext_35 ⟨Nat.zero_le _, Nat.zero_le _⟩ (fun H locs hP hD hS => ?_)
      refine W.eq (g2 := F0 m 38 ls []) rfl ?_
      refine lv_aload_n hx hb dX3_readNext_38 rfl (lv_at hl 1 rfl) ?_
      refine lv_dup hx hb dX3_readNext_39 rfl ?_
      refine va_get (D := D) (ci := 2) (v := .int en) (C := RX3) (T := TX3) (N := 6) hx hb hts iX3 hown hK hP 0 rfl rfl 5 (by decide) (hts (.fieldLink RX3 15 "SampleTracker$Journal" "end" "I") (by decide +kernel)) (fun _ h9 => h9) rfl dX3_readNext_40 ?_
      refine lv_iload_n hx hb dX3_readNext_43 rfl (lv_at hl 0 rfl) ?_
      refine lv_iadd hx hb dX3_readNext_44 ?_
      refine va_put (D := D) (ci := 2) (v := .int (en + r_3)) (ty := .int) (C := RX3) (T := TX3) (N := 6) hx hb hts iX3 tyX3 tyX3_ok nmX3 hown hK hP hD hS 0 rfl rfl 5 (by decide) (hts (.fieldLink RX3 15 "SampleTracker$Journal" "end" "I") (by decide +kernel)) (fun _ h9 => h9) rfl (by decide +kernel) rfl rfl (Nat.le_of_ble_eq_true rfl) dX3_readNext_45 (fun H locs hP hD hS => ?_)
      have hP : va_P D vwCl [(aj, .inr (2, [.ref aw, .ref k1, .ref k2, .ref ap, .int iu, .int (en + r_3)])), (aw, .inr (5, [.int (zb up), .int (zb cw), .int bl, .int wr, .int fa])), (k1, .inr (0, [.ref r1])), (r1, .inl (y 0, nb, .inl b1)), (k2, .inr (0, [.ref r2])), (r2, .inl (y 0, nb, .inl b2)), (ap, .inr (4, [.ref aw, .ref pb, .int pos, .int crc])), (ae, .inr (1, [.int o_ek_7, .int o_es_8, .int o_ew_9, .long o_ev_10]))] H := hP
      have hD : va_D A [(aj, .inr (2, [.ref aw, .ref k1, .ref k2, .ref ap, .int iu, .int (en + r_3)])), (aw, .inr (5, [.int (zb up), .int (zb cw), .int bl, .int wr, .int fa])), (k1, .inr (0, [.ref r1])), (r1, .inl (y 0, nb, .inl b1)), (k2, .inr (0, [.ref r2])), (r2, .inl (y 0, nb, .inl b2)), (ap, .inr (4, [.ref aw, .ref pb, .int pos, .int crc])), (ae, .inr (1, [.int o_ek_7, .int o_es_8, .int o_ew_9, .long o_ev_10]))] := hD
      refine lv_iconst (v := (1 : Int32)) hx hb dX3_readNext_48 (by decide) ?_
      obtain rfl := Option.some.inj hf
      exact W.zret (ty := .boolean) hx hb hr rfl (fun t ht hW => ⟨⟨(), rfl, by rw [ht]; exact hP, hD⟩, hS.F ht⟩) hS.2.2 dX3_readNext_49
    · have hf := ifp hf c_5
      refine lv_iconst (v := (0 : Int32)) hx hb dX3_readNext_20 (by decide) ?_
      obtain rfl := Option.some.inj hf
      exact W.zret (ty := .boolean) hx hb hr rfl (fun t ht hW => ⟨⟨(), rfl, by rw [ht]; exact hP, hD⟩, hS.F ht⟩) hS.2.2 dX3_readNext_21
  · have hf := ifn hf c_1
    refine ct_V (As := [.int iu]) (rest := []) (wr := [(ae, .inr (1, [.int ek, .int es, .int ew, .long ev]))]) (wn := [(aj, .inr (2, [.ref aw, .ref k1, .ref k2, .ref ap, .int iu, .int en])), (aw, .inr (5, [.int (zb up), .int (zb cw), .int bl, .int wr, .int fa])), (k1, .inr (0, [.ref r1])), (r1, .inl (y 0, nb, .inl b1)), (k2, .inr (0, [.ref r2])), (r2, .inl (y 0, nb, .inl b2)), (ap, .inr (4, [.ref aw, .ref pb, .int pos, .int crc])), (ae, .inr (1, [.int ek, .int es, .int ew, .long ev]))]) hfix (cX3_bank_2_ok l D y aj aw k1 r1 k2 r2 ap up cw bl wr fa pb pos crc nb b1 b2 iu en iu c_1) (cwV 1 hts gX3_readNext_X3_bank rfl rfl rfl (by decide +kernel) ⟨Nat.le_of_ble_eq_true rfl, Nat.le_of_ble_eq_true rfl⟩) E hP hD hS [0, 1, 2, 3, 4, 5, 6] [7] [1, 2, 3, 4, 5, 6, 7, 0] rfl rfl rfl rfl (by decide) rfl rfl 0 2 rfl rfl rfl hl.1 rfl (Nat.le_of_ble_eq_true rfl) dX3_readNext_5 ⟨Nat.zero_le _, Nat.zero_le _⟩ (fun H locs hP hD hS => ?_)
    refine W.eq (g2 := F0 m 8 ls [.ref k2]) rfl ?_
    refine lv_aload_n hx hb dX3_readNext_8 rfl (lv_at hl 0 rfl) ?_
    refine va_get (D := D) (ci := 2) (v := .int en) (C := RX3) (T := TX3) (N := 6) hx hb hts iX3 hown hK hP 0 rfl rfl 5 (by decide) (hts (.fieldLink RX3 15 "SampleTracker$Journal" "end" "I") (by decide +kernel)) (fun _ h9 => h9) rfl dX3_readNext_9 ?_
    obtain ⟨r_13, hc_14, hf⟩ := obd hf
    refine ct_V (As := [.int en]) (rest := []) (wr := [(aj, .inr (2, [.ref aw, .ref k1, .ref k2, .ref ap, .int iu, .int en])), (aw, .inr (5, [.int (zb up), .int (zb cw), .int bl, .int wr, .int fa])), (k1, .inr (0, [.ref r1])), (r1, .inl (y 0, nb, .inl b1)), (ap, .inr (4, [.ref aw, .ref pb, .int pos, .int crc])), (ae, .inr (1, [.int ek, .int es, .int ew, .long ev]))]) (wn := [(aj, .inr (2, [.ref aw, .ref k1, .ref k2, .ref ap, .int iu, .int en])), (aw, .inr (5, [.int (zb up), .int (zb cw), .int bl, .int wr, .int fa])), (k1, .inr (0, [.ref r1])), (r1, .inl (y 0, nb, .inl b1)), (k2, .inr (0, [.ref r2])), (r2, .inl (y 0, nb, .inl b2)), (ap, .inr (4, [.ref aw, .ref pb, .int pos, .int crc])), (ae, .inr (1, [.int ek, .int es, .int ew, .long ev]))]) hfix (cX0_wholeRecordAt_ok l D y k2 r2 nb b2 en _ hc_14) (cwV 1 hts gX3_readNext_X0_wholeRecordAt rfl rfl rfl (by decide +kernel) ⟨Nat.le_of_ble_eq_true rfl, Nat.le_of_ble_eq_true rfl⟩) E hP hD hS [4, 5] [0, 1, 2, 3, 6, 7] [0, 1, 2, 3, 6, 7, 4, 5] rfl rfl rfl rfl (by decide) rfl rfl 0 0 rfl rfl rfl hl.1 rfl (Nat.le_of_ble_eq_true rfl) dX3_readNext_12 ⟨Nat.zero_le _, Nat.zero_le _⟩ (fun H locs hP hD hS => ?_)
    refine W.eq (g2 := F0 m 15 ls [.int r_13]) rfl ?_
    refine lv_istore_n (lv' := [(2, .int r_13), (0, .ref aj), (1, .ref ae)]) hx hb dX3_readNext_15 rfl hl (by decide) rfl (fun ls hl => ?_)
    refine lv_iload_n hx hb dX3_readNext_16 rfl (lv_at hl 0 rfl) ?_
    refine lv_if_ne (tgt := 22) hx hb dX3_readNext_17 (by decide) (fun c_15 => ?_) (fun c_15 => ?_)
    · have hf := ifn hf c_15
      refine lv_aload_n hx hb dX3_readNext_22 rfl (lv_at hl 2 rfl) ?_
      refine lv_aload_n hx hb dX3_readNext_23 rfl (lv_at hl 1 rfl) ?_
      refine lv_aload_n hx hb dX3_readNext_24 rfl (lv_at hl 1 rfl) ?_
      refine va_get (D := D) (ci := 2) (v := .int iu) (C := RX3) (T := TX3) (N := 6) hx hb hts iX3 hown hK hP 0 rfl rfl 4 (by decide) (hts (.fieldLink RX3 9 "SampleTracker$Journal" "inUse" "I") (by decide +kernel)) (fun _ h9 => h9) rfl dX3_readNext_25 ?_
      refine ct_V (As := [.int iu]) (rest := [.ref ae]) (wr := [(ae, .inr (1, [.int ek, .int es, .int ew, .long ev]))]) (wn := [(aj, .inr (2, [.ref aw, .ref k1, .ref k2, .ref ap, .int iu, .int en])), (aw, .inr (5, [.int (zb up), .int (zb cw), .int bl, .int wr, .int fa])), (k1, .inr (0, [.ref r1])), (r1, .inl (y 0, nb, .inl b1)), (k2, .inr (0, [.ref r2])), (r2, .inl (y 0, nb, .inl b2)), (ap, .inr (4, [.ref aw, .ref pb, .int pos, .int crc])), (ae, .inr (1, [.int ek, .int es, .int ew, .long ev]))]) hfix (cX3_bank_2_ok l D y aj aw k1 r1 k2 r2 ap up cw bl wr fa pb pos crc nb b1 b2 iu en iu c_1) (cwV 1 hts gX3_readNext_X3_bank rfl rfl rfl (by decide +kernel) ⟨Nat.le_of_ble_eq_true rfl, Nat.le_of_ble_eq_true rfl⟩) E hP hD hS [0, 1, 2, 3, 4, 5, 6] [7] [1, 2, 3, 4, 5, 6, 7, 0] rfl rfl rfl rfl (by decide) rfl rfl 0 2 rfl rfl rfl hl.1 rfl (Nat.le_of_ble_eq_true rfl) dX3_readNext_28 ⟨Nat.zero_le _, Nat.zero_le _⟩ (fun H locs hP hD hS => ?_)
      refine W.eq (g2 := F0 m 31 ls [.ref k2, .ref ae]) rfl ?_
      refine lv_aload_n hx hb dX3_readNext_31 rfl (lv_at hl 1 rfl) ?_
      refine va_get (D := D) (ci := 2) (v := .int en) (C := RX3) (T := TX3) (N := 6) hx hb hts iX3 hown hK hP 0 rfl rfl 5 (by decide) (hts (.fieldLink RX3 15 "SampleTracker$Journal" "end" "I") (by decide +kernel)) (fun _ h9 => h9) rfl dX3_readNext_32 ?_
      obtain ⟨⟨o_ek_17, o_es_18, o_ew_19, o_ev_20⟩, hc_21, hf⟩ := obd hf
      refine ct_V (As := [.ref k2, .int en]) (rest := []) (wr := [(aj, .inr (2, [.ref aw, .ref k1, .ref k2, .ref ap, .int iu, .int en])), (aw, .inr (5, [.int (zb up), .int (zb cw), .int bl, .int wr, .int fa])), (k1, .inr (0, [.ref r1])), (r1, .inl (y 0, nb, .inl b1)), (ap, .inr (4, [.ref aw, .ref pb, .int pos, .int crc]))]) (wn := [(aj, .inr (2, [.ref aw, .ref k1, .ref k2, .ref ap, .int iu, .int en])), (aw, .inr (5, [.int (zb up), .int (zb cw), .int bl, .int wr, .int fa])), (k1, .inr (0, [.ref r1])), (r1, .inl (y 0, nb, .inl b1)), (k2, .inr (0, [.ref r2])), (r2, .inl (y 0, nb, .inl b2)), (ap, .inr (4, [.ref aw, .ref pb, .int pos, .int crc])), (ae, .inr (1, [.int o_ek_17, .int o_es_18, .int o_ew_19, .long o_ev_20]))]) hfix (cX2_readFrom_ok l D y ae k2 r2 nb b2 ek es ew ev en _ hc_21) (cwV 2 hts gX3_readNext_X2_readFrom rfl rfl rfl (by decide +kernel) ⟨Nat.le_of_ble_eq_true rfl, Nat.le_of_ble_eq_true rfl⟩) E hP hD hS [7, 4, 5] [0, 1, 2, 3, 6] [0, 1, 2, 3, 6, 7, 4, 5] rfl rfl rfl rfl (by decide) rfl rfl 0 1 rfl rfl rfl hl.1 rfl (Nat.le_of_ble_eq_true rfl) dX3_readNext_35 ⟨Nat.zero_le _, Nat.zero_le _⟩ (fun H locs hP hD hS => ?_)
      refine W.eq (g2 := F0 m 38 ls []) rfl ?_
      refine lv_aload_n hx hb dX3_readNext_38 rfl (lv_at hl 1 rfl) ?_
      refine lv_dup hx hb dX3_readNext_39 rfl ?_
      refine va_get (D := D) (ci := 2) (v := .int en) (C := RX3) (T := TX3) (N := 6) hx hb hts iX3 hown hK hP 0 rfl rfl 5 (by decide) (hts (.fieldLink RX3 15 "SampleTracker$Journal" "end" "I") (by decide +kernel)) (fun _ h9 => h9) rfl dX3_readNext_40 ?_
      refine lv_iload_n hx hb dX3_readNext_43 rfl (lv_at hl 0 rfl) ?_
      refine lv_iadd hx hb dX3_readNext_44 ?_
      refine va_put (D := D) (ci := 2) (v := .int (en + r_13)) (ty := .int) (C := RX3) (T := TX3) (N := 6) hx hb hts iX3 tyX3 tyX3_ok nmX3 hown hK hP hD hS 0 rfl rfl 5 (by decide) (hts (.fieldLink RX3 15 "SampleTracker$Journal" "end" "I") (by decide +kernel)) (fun _ h9 => h9) rfl (by decide +kernel) rfl rfl (Nat.le_of_ble_eq_true rfl) dX3_readNext_45 (fun H locs hP hD hS => ?_)
      have hP : va_P D vwCl [(aj, .inr (2, [.ref aw, .ref k1, .ref k2, .ref ap, .int iu, .int (en + r_13)])), (aw, .inr (5, [.int (zb up), .int (zb cw), .int bl, .int wr, .int fa])), (k1, .inr (0, [.ref r1])), (r1, .inl (y 0, nb, .inl b1)), (k2, .inr (0, [.ref r2])), (r2, .inl (y 0, nb, .inl b2)), (ap, .inr (4, [.ref aw, .ref pb, .int pos, .int crc])), (ae, .inr (1, [.int o_ek_17, .int o_es_18, .int o_ew_19, .long o_ev_20]))] H := hP
      have hD : va_D A [(aj, .inr (2, [.ref aw, .ref k1, .ref k2, .ref ap, .int iu, .int (en + r_13)])), (aw, .inr (5, [.int (zb up), .int (zb cw), .int bl, .int wr, .int fa])), (k1, .inr (0, [.ref r1])), (r1, .inl (y 0, nb, .inl b1)), (k2, .inr (0, [.ref r2])), (r2, .inl (y 0, nb, .inl b2)), (ap, .inr (4, [.ref aw, .ref pb, .int pos, .int crc])), (ae, .inr (1, [.int o_ek_17, .int o_es_18, .int o_ew_19, .long o_ev_20]))] := hD
      refine lv_iconst (v := (1 : Int32)) hx hb dX3_readNext_48 (by decide) ?_
      obtain rfl := Option.some.inj hf
      exact W.zret (ty := .boolean) hx hb hr rfl (fun t ht hW => ⟨⟨(), rfl, by rw [ht]; exact hP, hD⟩, hS.F ht⟩) hS.2.2 dX3_readNext_49
    · have hf := ifp hf c_15
      refine lv_iconst (v := (0 : Int32)) hx hb dX3_readNext_20 (by decide) ?_
      obtain rfl := Option.some.inj hf
      exact W.zret (ty := .boolean) hx hb hr rfl (fun t ht hW => ⟨⟨(), rfl, by rw [ht]; exact hP, hD⟩, hS.F ht⟩) hS.2.2 dX3_readNext_21

def fX3_blankTheRest (nb : Nat) (b1 : Nat → Int32) (b2 : Nat → Int32) (iu : Int32) (en : Int32) : Option ((Nat → Int32) × (Nat → Int32)) := (if iu = 0 then ((fX0_blankFrom nb b1 en).bind fun o_bb_3 => some (o_bb_3, b2)) else ((fX0_blankFrom nb b2 en).bind fun o_bb_6 => some (b1, o_bb_6)))

set_option maxHeartbeats 4000000 in
set_option maxRecDepth 100000 in
theorem cX3_blankTheRest_ok (l : Launch) (D : va_G) (y : Nat → ClassId) (aj : Nat) (aw : Nat) (k1 : Nat) (r1 : Nat) (k2 : Nat) (r2 : Nat) (ap : Nat) (up : Bool) (cw : Bool) (bl : Int32) (wr : Int32) (fa : Int32) (pb : Nat) (pos : Int32) (crc : Int32) (nb : Nat) (b1 : Nat → Int32) (b2 : Nat → Int32) (iu : Int32) (en : Int32) (res : (Nat → Int32) × (Nat → Int32)) (hf : fX3_blankTheRest nb b1 b2 iu en = some res) : CT l D y yX3_blankTheRest wsX3_blankTheRest ({ frames := 2, cells := 0, slots := 0, locals := 35 } : Room) [.ref aj] [(aj, .inr (2, [.ref aw, .ref k1, .ref k2, .ref ap, .int iu, .int en])), (aw, .inr (5, [.int (zb up), .int (zb cw), .int bl, .int wr, .int fa])), (k1, .inr (0, [.ref r1])), (r1, .inl (y 0, nb, .inl b1)), (k2, .inr (0, [.ref r2])), (r2, .inl (y 0, nb, .inl b2)), (ap, .inr (4, [.ref aw, .ref pb, .int pos, .int crc]))] (none) [(aj, .inr (2, [.ref aw, .ref k1, .ref k2, .ref ap, .int iu, .int en])), (aw, .inr (5, [.int (zb up), .int (zb cw), .int bl, .int wr, .int fa])), (k1, .inr (0, [.ref r1])), (r1, .inl (y 0, nb, .inl res.1)), (k2, .inr (0, [.ref r2])), (r2, .inl (y 0, nb, .inl res.2)), (ap, .inr (4, [.ref aw, .ref pb, .int pos, .int crc]))] := by
  intro sz
  refine Met.ofW (cc := cX3_blankTheRest) (maxL := 1) (ret := none) (by decide) rfl ?_
  intro p e s m args below meth c s₁ B hml hv
  obtain ⟨rfl, hsz, hP, hK, hD0, hst, hno⟩ := hv
  have hx := B.exec
  have hb := B.bytes
  have hr := B.returns
  have hts := atoms_spec (ws := wsX3_blankTheRest) B.pre
  have hown : s.vm.findClass RX3 = some m.cls := findClass_of_methodNamed B.named
  have hlocks := B.notSynchronized
  subst hsz
  have hD := hD0.self (sz := s.heap.size)
  generalize hAe : va_A [(aj, .inr (2, [.ref aw, .ref k1, .ref k2, .ref ap, .int iu, .int en])), (aw, .inr (5, [.int (zb up), .int (zb cw), .int bl, .int wr, .int fa])), (k1, .inr (0, [.ref r1])), (r1, .inl (y 0, nb, .inl b1)), (k2, .inr (0, [.ref r2])), (r2, .inl (y 0, nb, .inl b2)), (ap, .inr (4, [.ref aw, .ref pb, .int pos, .int crc]))] s.heap.size = A at hD hst ⊢
  have hA : ∀ q : Nat, s.heap.size ≤ q → A q := fun q h => by rw [← hAe]; exact Or.inr h
  have hS : va_S A s.heap s.heap [] := va_S.rf
  have E : Ev D y A s := ⟨hK, hst, hno, hA⟩
  have hfix : CallFix p m c cX3_blankTheRest 1 s _ wsX3_blankTheRest RX3 := ⟨hx, hb, hml, hown, hts⟩
  have hP : va_P D vwCl [(aj, .inr (2, [.ref aw, .ref k1, .ref k2, .ref ap, .int iu, .int en])), (aw, .inr (5, [.int (zb up), .int (zb cw), .int bl, .int wr, .int fa])), (k1, .inr (0, [.ref r1])), (r1, .inl (y 0, nb, .inl b1)), (k2, .inr (0, [.ref r2])), (r2, .inl (y 0, nb, .inl b2)), (ap, .inr (4, [.ref aw, .ref pb, .int pos, .int crc]))] s.heap := hP
  have iX3 : ∀ w ∈ wsX30, w ∈ wsX3_blankTheRest := by decide +kernel
  have hl := lv_entry ([.ref aj]) (n := 1) (Nat.le_of_ble_eq_true rfl)
  rw [lg_entry_eq]
  generalize (lg_sl ([.ref aj]) ++ List.replicate (1 - (lg_sl ([.ref aj])).length) Slot.unset).toArray = ls at hl ⊢
  have hl : lv_has ls 1 [(0, .ref aj)] := hl
  unfold fX3_blankTheRest at hf
  refine lv_aload_n hx hb dX3_blankTheRest_0 rfl (lv_at hl 0 rfl) ?_
  refine lv_aload_n hx hb dX3_blankTheRest_1 rfl (lv_at hl 0 rfl) ?_
  refine va_get (D := D) (ci := 2) (v := .int iu) (C := RX3) (T := TX3) (N := 6) hx hb hts iX3 hown hK hP 0 rfl rfl 4 (by decide) (hts (.fieldLink RX3 9 "SampleTracker$Journal" "inUse" "I") (by decide +kernel)) (fun _ h9 => h9) rfl dX3_blankTheRest_2 ?_
  by_cases c_1 : iu = 0
  · have hf := ifp hf c_1
    refine ct_V (As := [.int iu]) (rest := []) (wr := []) (wn := [(aj, .inr (2, [.ref aw, .ref k1, .ref k2, .ref ap, .int iu, .int en])), (aw, .inr (5, [.int (zb up), .int (zb cw), .int bl, .int wr, .int fa])), (k1, .inr (0, [.ref r1])), (r1, .inl (y 0, nb, .inl b1)), (k2, .inr (0, [.ref r2])), (r2, .inl (y 0, nb, .inl b2)), (ap, .inr (4, [.ref aw, .ref pb, .int pos, .int crc]))]) hfix (cX3_bank_1_ok l D y aj aw k1 r1 k2 r2 ap up cw bl wr fa pb pos crc nb b1 b2 iu en iu c_1) (cwV 1 hts gX3_blankTheRest_X3_bank rfl rfl rfl (by decide +kernel) ⟨Nat.le_of_ble_eq_true rfl, Nat.le_of_ble_eq_true rfl⟩) E hP hD hS [0, 1, 2, 3, 4, 5, 6] [] [0, 1, 2, 3, 4, 5, 6] rfl rfl rfl rfl (by decide) rfl rfl 0 2 rfl rfl rfl hl.1 rfl (Nat.le_of_ble_eq_true rfl) dX3_blankTheRest_5 ⟨Nat.zero_le _, Nat.zero_le _⟩ (fun H locs hP hD hS => ?_)
    refine W.eq (g2 := F0 m 8 ls [.ref k1]) rfl ?_
    refine lv_aload_n hx hb dX3_blankTheRest_8 rfl (lv_at hl 0 rfl) ?_
    refine va_get (D := D) (ci := 2) (v := .int en) (C := RX3) (T := TX3) (N := 6) hx hb hts iX3 hown hK hP 0 rfl rfl 5 (by decide) (hts (.fieldLink RX3 15 "SampleTracker$Journal" "end" "I") (by decide +kernel)) (fun _ h9 => h9) rfl dX3_blankTheRest_9 ?_
    obtain ⟨o_bb_3, hc_4, hf⟩ := obd hf
    refine ct_V (As := [.int en]) (rest := []) (wr := [(aj, .inr (2, [.ref aw, .ref k1, .ref k2, .ref ap, .int iu, .int en])), (aw, .inr (5, [.int (zb up), .int (zb cw), .int bl, .int wr, .int fa])), (k2, .inr (0, [.ref r2])), (r2, .inl (y 0, nb, .inl b2)), (ap, .inr (4, [.ref aw, .ref pb, .int pos, .int crc]))]) (wn := [(aj, .inr (2, [.ref aw, .ref k1, .ref k2, .ref ap, .int iu, .int en])), (aw, .inr (5, [.int (zb up), .int (zb cw), .int bl, .int wr, .int fa])), (k1, .inr (0, [.ref r1])), (r1, .inl (y 0, nb, .inl o_bb_3)), (k2, .inr (0, [.ref r2])), (r2, .inl (y 0, nb, .inl b2)), (ap, .inr (4, [.ref aw, .ref pb, .int pos, .int crc]))]) hfix (cX0_blankFrom_ok l D y k1 r1 nb b1 en _ hc_4) (cwV 1 hts gX3_blankTheRest_X0_blankFrom rfl rfl rfl (by decide +kernel) ⟨Nat.le_of_ble_eq_true rfl, Nat.le_of_ble_eq_true rfl⟩) E hP hD hS [2, 3] [0, 1, 4, 5, 6] [0, 1, 5, 6, 2, 3, 4] rfl rfl rfl rfl (by decide) rfl rfl 0 0 rfl rfl rfl hl.1 rfl (Nat.le_of_ble_eq_true rfl) dX3_blankTheRest_12 ⟨Nat.zero_le _, Nat.zero_le _⟩ (fun H locs hP hD hS => ?_)
    refine W.eq (g2 := F0 m 15 ls []) rfl ?_
    obtain rfl := Option.some.inj hf
    exact W.vret hx hb hr (fun t ht hW => ⟨⟨(), rfl, by rw [ht]; exact hP, hD⟩, hS.F ht⟩) hS.2.2 dX3_blankTheRest_15
  · have hf := ifn hf c_1
    refine ct_V (As := [.int iu]) (rest := []) (wr := []) (wn := [(aj, .inr (2, [.ref aw, .ref k1, .ref k2, .ref ap, .int iu, .int en])), (aw, .inr (5, [.int (zb up), .int (zb cw), .int bl, .int wr, .int fa])), (k1, .inr (0, [.ref r1])), (r1, .inl (y 0, nb, .inl b1)), (k2, .inr (0, [.ref r2])), (r2, .inl (y 0, nb, .inl b2)), (ap, .inr (4, [.ref aw, .ref pb, .int pos, .int crc]))]) hfix (cX3_bank_2_ok l D y aj aw k1 r1 k2 r2 ap up cw bl wr fa pb pos crc nb b1 b2 iu en iu c_1) (cwV 1 hts gX3_blankTheRest_X3_bank rfl rfl rfl (by decide +kernel) ⟨Nat.le_of_ble_eq_true rfl, Nat.le_of_ble_eq_true rfl⟩) E hP hD hS [0, 1, 2, 3, 4, 5, 6] [] [0, 1, 2, 3, 4, 5, 6] rfl rfl rfl rfl (by decide) rfl rfl 0 2 rfl rfl rfl hl.1 rfl (Nat.le_of_ble_eq_true rfl) dX3_blankTheRest_5 ⟨Nat.zero_le _, Nat.zero_le _⟩ (fun H locs hP hD hS => ?_)
    refine W.eq (g2 := F0 m 8 ls [.ref k2]) rfl ?_
    refine lv_aload_n hx hb dX3_blankTheRest_8 rfl (lv_at hl 0 rfl) ?_
    refine va_get (D := D) (ci := 2) (v := .int en) (C := RX3) (T := TX3) (N := 6) hx hb hts iX3 hown hK hP 0 rfl rfl 5 (by decide) (hts (.fieldLink RX3 15 "SampleTracker$Journal" "end" "I") (by decide +kernel)) (fun _ h9 => h9) rfl dX3_blankTheRest_9 ?_
    obtain ⟨o_bb_6, hc_7, hf⟩ := obd hf
    refine ct_V (As := [.int en]) (rest := []) (wr := [(aj, .inr (2, [.ref aw, .ref k1, .ref k2, .ref ap, .int iu, .int en])), (aw, .inr (5, [.int (zb up), .int (zb cw), .int bl, .int wr, .int fa])), (k1, .inr (0, [.ref r1])), (r1, .inl (y 0, nb, .inl b1)), (ap, .inr (4, [.ref aw, .ref pb, .int pos, .int crc]))]) (wn := [(aj, .inr (2, [.ref aw, .ref k1, .ref k2, .ref ap, .int iu, .int en])), (aw, .inr (5, [.int (zb up), .int (zb cw), .int bl, .int wr, .int fa])), (k1, .inr (0, [.ref r1])), (r1, .inl (y 0, nb, .inl b1)), (k2, .inr (0, [.ref r2])), (r2, .inl (y 0, nb, .inl o_bb_6)), (ap, .inr (4, [.ref aw, .ref pb, .int pos, .int crc]))]) hfix (cX0_blankFrom_ok l D y k2 r2 nb b2 en _ hc_7) (cwV 1 hts gX3_blankTheRest_X0_blankFrom rfl rfl rfl (by decide +kernel) ⟨Nat.le_of_ble_eq_true rfl, Nat.le_of_ble_eq_true rfl⟩) E hP hD hS [4, 5] [0, 1, 2, 3, 6] [0, 1, 2, 3, 5, 6, 4] rfl rfl rfl rfl (by decide) rfl rfl 0 0 rfl rfl rfl hl.1 rfl (Nat.le_of_ble_eq_true rfl) dX3_blankTheRest_12 ⟨Nat.zero_le _, Nat.zero_le _⟩ (fun H locs hP hD hS => ?_)
    refine W.eq (g2 := F0 m 15 ls []) rfl ?_
    obtain rfl := Option.some.inj hf
    exact W.vret hx hb hr (fun t ht hW => ⟨⟨(), rfl, by rw [ht]; exact hP, hD⟩, hS.F ht⟩) hS.2.2 dX3_blankTheRest_15

