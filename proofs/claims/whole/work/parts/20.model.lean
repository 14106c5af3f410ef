/-! 20.model: laid by wip/whole/gen.py: mirrors and contracts -/
def fX9_u1 (mz : Int32) (mro : Nat → Int32) (p1 : Int32) : Option (Int32 × (Nat → Int32)) := (if (ib mz 32) = true then some ((mz + (1 : Int32)), (upd mro mz.toNatClampNeg (vp_nar .byte (p1.toInt8.toInt32)))) else none)

set_option maxHeartbeats 4000000 in
set_option maxRecDepth 100000 in
theorem cX9_u1_ok (l : Launch) (D : va_G) (y : Nat → ClassId) (am : Nat) (mo : Nat) (m1 : Nat) (m2 : Nat) (m_p : Nat) (m_w : Nat) (m_l : Nat) (m_v : Nat) (m_r : Nat) (m_q : Nat) (nb : Nat) (th : Int32) (mb : Int32) (us : Int32) (me : Int32) (rc : Int32) (dn : Bool) (lf : Int32) (mw : Int32) (mf : Int32) (ms : Int32) (mu : Int32) (ml : Int64) (mz : Int32) (c1 : Nat → Int32) (c2 : Nat → Int32) (mpa : Nat → Int32) (mwe : Nat → Int32) (mli : Nat → Int32) (mvo : Nat → Int64) (mro : Nat → Int32) (mpl : Nat → Int32) (p1 : Int32) (res : Int32 × (Nat → Int32)) (hf : fX9_u1 mz mro p1 = some res) : CT l D y yX9_u1 wsX9_u1 ({ frames := 0, cells := 0, slots := 0, locals := 0 } : Room) [.ref am, .int p1] [(am, .inr (8, [.int th, .int mb, .ref mo, .int us, .int me, .int rc, .int (zb dn), .int lf, .int mw, .int mf, .ref m_p, .ref m_w, .ref m_l, .ref m_v, .int ms, .int mu, .long ml, .ref m_r, .int mz, .ref m_q])), (mo, .inl (y 4, 2, .inr (.inr (.inr (.inr (outr m1 m2)))))), (m1, .inl (y 0, nb, .inl c1)), (m2, .inl (y 0, nb, .inl c2)), (m_p, .inl (y 1, 121, .inl mpa)), (m_w, .inl (y 1, 121, .inl mwe)), (m_l, .inl (y 3, 121, .inl mli)), (m_v, .inl (y 2, 121, .inr (.inl mvo))), (m_r, .inl (y 0, 32, .inl mro)), (m_q, .inl (y 1, 260, .inl mpl))] (none) [(am, .inr (8, [.int th, .int mb, .ref mo, .int us, .int me, .int rc, .int (zb dn), .int lf, .int mw, .int mf, .ref m_p, .ref m_w, .ref m_l, .ref m_v, .int ms, .int mu, .long ml, .ref m_r, .int res.1, .ref m_q])), (mo, .inl (y 4, 2, .inr (.inr (.inr (.inr (outr m1 m2)))))), (m1, .inl (y 0, nb, .inl c1)), (m2, .inl (y 0, nb, .inl c2)), (m_p, .inl (y 1, 121, .inl mpa)), (m_w, .inl (y 1, 121, .inl mwe)), (m_l, .inl (y 3, 121, .inl mli)), (m_v, .inl (y 2, 121, .inr (.inl mvo))), (m_r, .inl (y 0, 32, .inl res.2)), (m_q, .inl (y 1, 260, .inl mpl))] := by
  intro sz
  refine Met.ofW (cc := cX9_u1) (maxL := 2) (ret := none) (by decide) rfl ?_
  intro p e s m args below meth c s₁ B hml hv
  obtain ⟨rfl, hsz, hP, hK, hD0, hst, hno⟩ := hv
  have hx := B.exec
  have hb := B.bytes
  have hr := B.returns
  have hts := atoms_spec (ws := wsX9_u1) B.pre
  have hown : s.vm.findClass RX9 = some m.cls := findClass_of_methodNamed B.named
  have hlocks := B.notSynchronized
  subst hsz
  have hD := hD0.self (sz := s.heap.size)
  generalize hAe : va_A [(am, .inr (8, [.int th, .int mb, .ref mo, .int us, .int me, .int rc, .int (zb dn), .int lf, .int mw, .int mf, .ref m_p, .ref m_w, .ref m_l, .ref m_v, .int ms, .int mu, .long ml, .ref m_r, .int mz, .ref m_q])), (mo, .inl (y 4, 2, .inr (.inr (.inr (.inr (outr m1 m2)))))), (m1, .inl (y 0, nb, .inl c1)), (m2, .inl (y 0, nb, .inl c2)), (m_p, .inl (y 1, 121, .inl mpa)), (m_w, .inl (y 1, 121, .inl mwe)), (m_l, .inl (y 3, 121, .inl mli)), (m_v, .inl (y 2, 121, .inr (.inl mvo))), (m_r, .inl (y 0, 32, .inl mro)), (m_q, .inl (y 1, 260, .inl mpl))] s.heap.size = A at hD hst ⊢
  have hA : ∀ q : Nat, s.heap.size ≤ q → A q := fun q h => by rw [← hAe]; exact Or.inr h
  have hS : va_S A s.heap s.heap [] := va_S.rf
  have E : Ev D y A s := ⟨hK, hst, hno, hA⟩
  have hfix : CallFix p m c cX9_u1 2 s _ wsX9_u1 RX9 := ⟨hx, hb, hml, hown, hts⟩
  have hP : va_P D vwCl [(am, .inr (8, [.int th, .int mb, .ref mo, .int us, .int me, .int rc, .int (zb dn), .int lf, .int mw, .int mf, .ref m_p, .ref m_w, .ref m_l, .ref m_v, .int ms, .int mu, .long ml, .ref m_r, .int mz, .ref m_q])), (mo, .inl (y 4, 2, .inr (.inr (.inr (.inr (outr m1 m2)))))), (m1, .inl (y 0, nb, .inl c1)), (m2, .inl (y 0, nb, .inl c2)), (m_p, .inl (y 1, 121, .inl mpa)), (m_w, .inl (y 1, 121, .inl mwe)), (m_l, .inl (y 3, 121, .inl mli)), (m_v, .inl (y 2, 121, .inr (.inl mvo))), (m_r, .inl (y 0, 32, .inl mro)), (m_q, .inl (y 1, 260, .inl mpl))] s.heap := hP
  have iX9 : ∀ w ∈ wsX90, w ∈ wsX9_u1 := by decide +kernel
  have hl := lv_entry ([.ref am, .int p1]) (n := 2) (Nat.le_of_ble_eq_true rfl)
  rw [lg_entry_eq]
  generalize (lg_sl ([.ref am, .int p1]) ++ List.replicate (2 - (lg_sl ([.ref am, .int p1])).length) Slot.unset).toArray = ls at hl ⊢
  have hl : lv_has ls 2 [(0, .ref am), (1, .int p1)] := hl
  unfold fX9_u1 at hf
  refine lv_aload_n hx hb dX9_u1_0 rfl (lv_at hl 0 rfl) ?_
  refine va_get (D := D) (ci := 8) (v := .ref m_r) (C := RX9) (T := TX9) (N := 20) hx hb hts iX9 hown hK hP 0 rfl rfl 17 (by decide) (hts (.fieldLink RX9 28 "SampleTrackerModel" "row" "[B") (by decide +kernel)) (fun _ h9 => h9) rfl dX9_u1_1 ?_
  refine lv_aload_n hx hb dX9_u1_4 rfl (lv_at hl 0 rfl) ?_
  refine va_get (D := D) (ci := 8) (v := .int mz) (C := RX9) (T := TX9) (N := 20) hx hb hts iX9 hown hK hP 0 rfl rfl 18 (by decide) (hts (.fieldLink RX9 43 "SampleTrackerModel" "size" "I") (by decide +kernel)) (fun _ h9 => h9) rfl dX9_u1_5 ?_
  refine lv_iload_n hx hb dX9_u1_8 rfl (lv_at hl 1 rfl) ?_
  refine lv_i2b (v := (p1.toInt8.toInt32)) hx hb dX9_u1_9 rfl ?_
  obtain ⟨h_1, hf⟩ := ibk hf
  refine va_bast hx hb hK hP hD hS 8 0 rfl rfl (ib_in h_1) dX9_u1_10 (fun H locs hP hD hS => ?_)
  have hP : va_P D vwCl [(am, .inr (8, [.int th, .int mb, .ref mo, .int us, .int me, .int rc, .int (zb dn), .int lf, .int mw, .int mf, .ref m_p, .ref m_w, .ref m_l, .ref m_v, .int ms, .int mu, .long ml, .ref m_r, .int mz, .ref m_q])), (mo, .inl (y 4, 2, .inr (.inr (.inr (.inr (outr m1 m2)))))), (m1, .inl (y 0, nb, .inl c1)), (m2, .inl (y 0, nb, .inl c2)), (m_p, .inl (y 1, 121, .inl mpa)), (m_w, .inl (y 1, 121, .inl mwe)), (m_l, .inl (y 3, 121, .inl mli)), (m_v, .inl (y 2, 121, .inr (.inl mvo))), (m_r, .inl (y 0, 32, .inl (upd mro mz.toNatClampNeg (vp_nar .byte (p1.toInt8.toInt32))))), (m_q, .inl (y 1, 260, .inl mpl))] H := hP
  have hD : va_D A [(am, .inr (8, [.int th, .int mb, .ref mo, .int us, .int me, .int rc, .int (zb dn), .int lf, .int mw, .int mf, .ref m_p, .ref m_w, .ref m_l, .ref m_v, .int ms, .int mu, .long ml, .ref m_r, .int mz, .ref m_q])), (mo, .inl (y 4, 2, .inr (.inr (.inr (.inr (outr m1 m2)))))), (m1, .inl (y 0, nb, .inl c1)), (m2, .inl (y 0, nb, .inl c2)), (m_p, .inl (y 1, 121, .inl mpa)), (m_w, .inl (y 1, 121, .inl mwe)), (m_l, .inl (y 3, 121, .inl mli)), (m_v, .inl (y 2, 121, .inr (.inl mvo))), (m_r, .inl (y 0, 32, .inl (upd mro mz.toNatClampNeg (vp_nar .byte (p1.toInt8.toInt32))))), (m_q, .inl (y 1, 260, .inl mpl))] := hD
  refine lv_aload_n hx hb dX9_u1_11 rfl (lv_at hl 0 rfl) ?_
  refine lv_dup hx hb dX9_u1_12 rfl ?_
  refine va_get (D := D) (ci := 8) (v := .int mz) (C := RX9) (T := TX9) (N := 20) hx hb hts iX9 hown hK hP 0 rfl rfl 18 (by decide) (hts (.fieldLink RX9 43 "SampleTrackerModel" "size" "I") (by decide +kernel)) (fun _ h9 => h9) rfl dX9_u1_13 ?_
  refine lv_iconst (v := (1 : Int32)) hx hb dX9_u1_16 (by decide) ?_
  refine lv_iadd hx hb dX9_u1_17 ?_
  refine va_put (D := D) (ci := 8) (v := .int (mz + (1 : Int32))) (ty := .int) (C := RX9) (T := TX9) (N := 20) hx hb hts iX9 tyX9 tyX9_ok nmX9 hown hK hP hD hS 0 rfl rfl 18 (by decide) (hts (.fieldLink RX9 43 "SampleTrackerModel" "size" "I") (by decide +kernel)) (fun _ h9 => h9) rfl (by decide +kernel) rfl rfl (Nat.le_of_ble_eq_true rfl) dX9_u1_18 (fun H locs hP hD hS => ?_)
  have hP : va_P D vwCl [(am, .inr (8, [.int th, .int mb, .ref mo, .int us, .int me, .int rc, .int (zb dn), .int lf, .int mw, .int mf, .ref m_p, .ref m_w, .ref m_l, .ref m_v, .int ms, .int mu, .long ml, .ref m_r, .int (mz + (1 : Int32)), .ref m_q])), (mo, .inl (y 4, 2, .inr (.inr (.inr (.inr (outr m1 m2)))))), (m1, .inl (y 0, nb, .inl c1)), (m2, .inl (y 0, nb, .inl c2)), (m_p, .inl (y 1, 121, .inl mpa)), (m_w, .inl (y 1, 121, .inl mwe)), (m_l, .inl (y 3, 121, .inl mli)), (m_v, .inl (y 2, 121, .inr (.inl mvo))), (m_r, .inl (y 0, 32, .inl (upd mro mz.toNatClampNeg (vp_nar .byte (p1.toInt8.toInt32))))), (m_q, .inl (y 1, 260, .inl mpl))] H := hP
  have hD : va_D A [(am, .inr (8, [.int th, .int mb, .ref mo, .int us, .int me, .int rc, .int (zb dn), .int lf, .int mw, .int mf, .ref m_p, .ref m_w, .ref m_l, .ref m_v, .int ms, .int mu, .long ml, .ref m_r, .int (mz + (1 : Int32)), .ref m_q])), (mo, .inl (y 4, 2, .inr (.inr (.inr (.inr (outr m1 m2)))))), (m1, .inl (y 0, nb, .inl c1)), (m2, .inl (y 0, nb, .inl c2)), (m_p, .inl (y 1, 121, .inl mpa)), (m_w, .inl (y 1, 121, .inl mwe)), (m_l, .inl (y 3, 121, .inl mli)), (m_v, .inl (y 2, 121, .inr (.inl mvo))), (m_r, .inl (y 0, 32, .inl (upd mro mz.toNatClampNeg (vp_nar .byte (p1.toInt8.toInt32))))), (m_q, .inl (y 1, 260, .inl mpl))] := hD
  obtain rfl := Option.some.inj hf
  exact W.vret hx hb hr (fun t ht hW => ⟨⟨(), rfl, by rw [ht]; exact hP, hD⟩, hS.F ht⟩) hS.2.2 dX9_u1_21

def fX9_u2 (mz : Int32) (mro : Nat → Int32) (p1 : Int32) : Option (Int32 × (Nat → Int32)) := ((fX9_u1 mz mro (p1 >>> ((8 : Int32) &&& 31))).bind fun (o_mz_1, o_mro_2) => ((fX9_u1 o_mz_1 o_mro_2 p1).bind fun (o_mz_4, o_mro_5) => some (o_mz_4, o_mro_5)))

set_option maxHeartbeats 4000000 in
set_option maxRecDepth 100000 in
theorem cX9_u2_ok (l : Launch) (D : va_G) (y : Nat → ClassId) (am : Nat) (mo : Nat) (m1 : Nat) (m2 : Nat) (m_p : Nat) (m_w : Nat) (m_l : Nat) (m_v : Nat) (m_r : Nat) (m_q : Nat) (nb : Nat) (th : Int32) (mb : Int32) (us : Int32) (me : Int32) (rc : Int32) (dn : Bool) (lf : Int32) (mw : Int32) (mf : Int32) (ms : Int32) (mu : Int32) (ml : Int64) (mz : Int32) (c1 : Nat → Int32) (c2 : Nat → Int32) (mpa : Nat → Int32) (mwe : Nat → Int32) (mli : Nat → Int32) (mvo : Nat → Int64) (mro : Nat → Int32) (mpl : Nat → Int32) (p1 : Int32) (res : Int32 × (Nat → Int32)) (hf : fX9_u2 mz mro p1 = some res) : CT l D y yX9_u2 wsX9_u2 ({ frames := 1, cells := 0, slots := 0, locals := 21 } : Room) [.ref am, .int p1] [(am, .inr (8, [.int th, .int mb, .ref mo, .int us, .int me, .int rc, .int (zb dn), .int lf, .int mw, .int mf, .ref m_p, .ref m_w, .ref m_l, .ref m_v, .int ms, .int mu, .long ml, .ref m_r, .int mz, .ref m_q])), (mo, .inl (y 4, 2, .inr (.inr (.inr (.inr (outr m1 m2)))))), (m1, .inl (y 0, nb, .inl c1)), (m2, .inl (y 0, nb, .inl c2)), (m_p, .inl (y 1, 121, .inl mpa)), (m_w, .inl (y 1, 121, .inl mwe)), (m_l, .inl (y 3, 121, .inl mli)), (m_v, .inl (y 2, 121, .inr (.inl mvo))), (m_r, .inl (y 0, 32, .inl mro)), (m_q, .inl (y 1, 260, .inl mpl))] (none) [(am, .inr (8, [.int th, .int mb, .ref mo, .int us, .int me, .int rc, .int (zb dn), .int lf, .int mw, .int mf, .ref m_p, .ref m_w, .ref m_l, .ref m_v, .int ms, .int mu, .long ml, .ref m_r, .int res.1, .ref m_q])), (mo, .inl (y 4, 2, .inr (.inr (.inr (.inr (outr m1 m2)))))), (m1, .inl (y 0, nb, .inl c1)), (m2, .inl (y 0, nb, .inl c2)), (m_p, .inl (y 1, 121, .inl mpa)), (m_w, .inl (y 1, 121, .inl mwe)), (m_l, .inl (y 3, 121, .inl mli)), (m_v, .inl (y 2, 121, .inr (.inl mvo))), (m_r, .inl (y 0, 32, .inl res.2)), (m_q, .inl (y 1, 260, .inl mpl))] := by
  intro sz
  refine Met.ofW (cc := cX9_u2) (maxL := 2) (ret := none) (by decide) rfl ?_
  intro p e s m args below meth c s₁ B hml hv
  obtain ⟨rfl, hsz, hP, hK, hD0, hst, hno⟩ := hv
  have hx := B.exec
  have hb := B.bytes
  have hr := B.returns
  have hts := atoms_spec (ws := wsX9_u2) B.pre
  have hown : s.vm.findClass RX9 = some m.cls := findClass_of_methodNamed B.named
  have hlocks := B.notSynchronized
  subst hsz
  have hD := hD0.self (sz := s.heap.size)
  generalize hAe : va_A [(am, .inr (8, [.int th, .int mb, .ref mo, .int us, .int me, .int rc, .int (zb dn), .int lf, .int mw, .int mf, .ref m_p, .ref m_w, .ref m_l, .ref m_v, .int ms, .int mu, .long ml, .ref m_r, .int mz, .ref m_q])), (mo, .inl (y 4, 2, .inr (.inr (.inr (.inr (outr m1 m2)))))), (m1, .inl (y 0, nb, .inl c1)), (m2, .inl (y 0, nb, .inl c2)), (m_p, .inl (y 1, 121, .inl mpa)), (m_w, .inl (y 1, 121, .inl mwe)), (m_l, .inl (y 3, 121, .inl mli)), (m_v, .inl (y 2, 121, .inr (.inl mvo))), (m_r, .inl (y 0, 32, .inl mro)), (m_q, .inl (y 1, 260, .inl mpl))] s.heap.size = A at hD hst ⊢
  have hA : ∀ q : Nat, s.heap.size ≤ q → A q := fun q h => by rw [← hAe]; exact Or.inr h
  have hS : va_S A s.heap s.heap [] := va_S.rf
  have E : Ev D y A s := ⟨hK, hst, hno, hA⟩
  have hfix : CallFix p m c cX9_u2 2 s _ wsX9_u2 RX9 := ⟨hx, hb, hml, hown, hts⟩
  have hP : va_P D vwCl [(am, .inr (8, [.int th, .int mb, .ref mo, .int us, .int me, .int rc, .int (zb dn), .int lf, .int mw, .int mf, .ref m_p, .ref m_w, .ref m_l, .ref m_v, .int ms, .int mu, .long ml, .ref m_r, .int mz, .ref m_q])), (mo, .inl (y 4, 2, .inr (.inr (.inr (.inr (outr m1 m2)))))), (m1, .inl (y 0, nb, .inl c1)), (m2, .inl (y 0, nb, .inl c2)), (m_p, .inl (y 1, 121, .inl mpa)), (m_w, .inl (y 1, 121, .inl mwe)), (m_l, .inl (y 3, 121, .inl mli)), (m_v, .inl (y 2, 121, .inr (.inl mvo))), (m_r, .inl (y 0, 32, .inl mro)), (m_q, .inl (y 1, 260, .inl mpl))] s.heap := hP
  have hl := lv_entry ([.ref am, .int p1]) (n := 2) (Nat.le_of_ble_eq_true rfl)
  rw [lg_entry_eq]
  generalize (lg_sl ([.ref am, .int p1]) ++ List.replicate (2 - (lg_sl ([.ref am, .int p1])).length) Slot.unset).toArray = ls at hl ⊢
  have hl : lv_has ls 2 [(0, .ref am), (1, .int p1)] := hl
  unfold fX9_u2 at hf
  refine lv_aload_n hx hb dX9_u2_0 rfl (lv_at hl 0 rfl) ?_
  refine lv_iload_n hx hb dX9_u2_1 rfl (lv_at hl 1 rfl) ?_
  refine lv_bipush (v := (8 : Int32)) hx hb dX9_u2_2 (by decide) ?_
  refine lv_ishr hx hb dX9_u2_4 ?_
  obtain ⟨⟨o_mz_1, o_mro_2⟩, hc_3, hf⟩ := obd hf
  refine ct_V (As := [.int (p1 >>> ((8 : Int32) &&& 31))]) (rest := []) (wr := []) (wn := [(am, .inr (8, [.int th, .int mb, .ref mo, .int us, .int me, .int rc, .int (zb dn), .int lf, .int mw, .int mf, .ref m_p, .ref m_w, .ref m_l, .ref m_v, .int ms, .int mu, .long ml, .ref m_r, .int o_mz_1, .ref m_q])), (mo, .inl (y 4, 2, .inr (.inr (.inr (.inr (outr m1 m2)))))), (m1, .inl (y 0, nb, .inl c1)), (m2, .inl (y 0, nb, .inl c2)), (m_p, .inl (y 1, 121, .inl mpa)), (m_w, .inl (y 1, 121, .inl mwe)), (m_l, .inl (y 3, 121, .inl mli)), (m_v, .inl (y 2, 121, .inr (.inl mvo))), (m_r, .inl (y 0, 32, .inl o_mro_2)), (m_q, .inl (y 1, 260, .inl mpl))]) hfix (cX9_u1_ok l D y am mo m1 m2 m_p m_w m_l m_v m_r m_q nb th mb us me rc dn lf mw mf ms mu ml mz c1 c2 mpa mwe mli mvo mro mpl (p1 >>> ((8 : Int32) &&& 31)) _ hc_3) (cwV 1 hts gX9_u2_X9_u1 rfl rfl rfl (by decide +kernel) ⟨Nat.le_of_ble_eq_true rfl, Nat.le_of_ble_eq_true rfl⟩) E hP hD hS [0, 1, 2, 3, 4, 5, 6, 7, 8, 9] [] [0, 1, 2, 3, 4, 5, 6, 7, 8, 9] rfl rfl rfl rfl (by decide) rfl rfl 0 8 rfl rfl rfl hl.1 rfl (Nat.le_of_ble_eq_true rfl) dX9_u2_5 ⟨Nat.zero_le _, Nat.zero_le _⟩ (fun H locs hP hD hS => ?_)
  refine W.eq (g2 := F0 m 8 ls []) rfl ?_
  refine lv_aload_n hx hb dX9_u2_8 rfl (lv_at hl 0 rfl) ?_
  refine lv_iload_n hx hb dX9_u2_9 rfl (lv_at hl 1 rfl) ?_
  obtain ⟨⟨o_mz_4, o_mro_5⟩, hc_6, hf⟩ := obd hf
  refine ct_V (As := [.int p1]) (rest := []) (wr := []) (wn := [(am, .inr (8, [.int th, .int mb, .ref mo, .int us, .int me, .int rc, .int (zb dn), .int lf, .int mw, .int mf, .ref m_p, .ref m_w, .ref m_l, .ref m_v, .int ms, .int mu, .long ml, .ref m_r, .int o_mz_4, .ref m_q])), (mo, .inl (y 4, 2, .inr (.inr (.inr (.inr (outr m1 m2)))))), (m1, .inl (y 0, nb, .inl c1)), (m2, .inl (y 0, nb, .inl c2)), (m_p, .inl (y 1, 121, .inl mpa)), (m_w, .inl (y 1, 121, .inl mwe)), (m_l, .inl (y 3, 121, .inl mli)), (m_v, .inl (y 2, 121, .inr (.inl mvo))), (m_r, .inl (y 0, 32, .inl o_mro_5)), (m_q, .inl (y 1, 260, .inl mpl))]) hfix (cX9_u1_ok l D y am mo m1 m2 m_p m_w m_l m_v m_r m_q nb th mb us me rc dn lf mw mf ms mu ml o_mz_1 c1 c2 mpa mwe mli mvo o_mro_2 mpl p1 _ hc_6) (cwV 1 hts gX9_u2_X9_u1 rfl rfl rfl (by decide +kernel) ⟨Nat.le_of_ble_eq_true rfl, Nat.le_of_ble_eq_true rfl⟩) E hP hD hS [0, 1, 2, 3, 4, 5, 6, 7, 8, 9] [] [0, 1, 2, 3, 4, 5, 6, 7, 8, 9] rfl rfl rfl rfl (by decide) rfl rfl 0 8 rfl rfl rfl hl.1 rfl (Nat.le_of_ble_eq_true rfl) dX9_u2_10 ⟨Nat.zero_le _, Nat.zero_le _⟩ (fun H locs hP hD hS => ?_)
  refine W.eq (g2 := F0 m 13 ls []) rfl ?_
  obtain rfl := Option.some.inj hf
  exact W.vret hx hb hr (fun t ht hW => ⟨⟨(), rfl, by rw [ht]; exact hP, hD⟩, hS.F ht⟩) hS.2.2 dX9_u2_13

def fX9_u4 (mz : Int32) (mro : Nat → Int32) (p1 : Int32) : Option (Int32 × (Nat → Int32)) := ((fX9_u2 mz mro (p1 >>> ((16 : Int32) &&& 31))).bind fun (o_mz_1, o_mro_2) => ((fX9_u2 o_mz_1 o_mro_2 p1).bind fun (o_mz_4, o_mro_5) => some (o_mz_4, o_mro_5)))

set_option maxHeartbeats 4000000 in
set_option maxRecDepth 100000 in
theorem cX9_u4_ok (l : Launch) (D : va_G) (y : Nat → ClassId) (am : Nat) (mo : Nat) (m1 : Nat) (m2 : Nat) (m_p : Nat) (m_w : Nat) (m_l : Nat) (m_v : Nat) (m_r : Nat) (m_q : Nat) (nb : Nat) (th : Int32) (mb : Int32) (us : Int32) (me : Int32) (rc : Int32) (dn : Bool) (lf : Int32) (mw : Int32) (mf : Int32) (ms : Int32) (mu : Int32) (ml : Int64) (mz : Int32) (c1 : Nat → Int32) (c2 : Nat → Int32) (mpa : Nat → Int32) (mwe : Nat → Int32) (mli : Nat → Int32) (mvo : Nat → Int64) (mro : Nat → Int32) (mpl : Nat → Int32) (p1 : Int32) (res : Int32 × (Nat → Int32)) (hf : fX9_u4 mz mro p1 = some res) : CT l D y yX9_u4 wsX9_u4 ({ frames := 2, cells := 0, slots := 0, locals := 42 } : Room) [.ref am, .int p1] [(am, .inr (8, [.int th, .int mb, .ref mo, .int us, .int me, .int rc, .int (zb dn), .int lf, .int mw, .int mf, .ref m_p, .ref m_w, .ref m_l, .ref m_v, .int ms, .int mu, .long ml, .ref m_r, .int mz, .ref m_q])), (mo, .inl (y 4, 2, .inr (.inr (.inr (.inr (outr m1 m2)))))), (m1, .inl (y 0, nb, .inl c1)), (m2, .inl (y 0, nb, .inl c2)), (m_p, .inl (y 1, 121, .inl mpa)), (m_w, .inl (y 1, 121, .inl mwe)), (m_l, .inl (y 3, 121, .inl mli)), (m_v, .inl (y 2, 121, .inr (.inl mvo))), (m_r, .inl (y 0, 32, .inl mro)), (m_q, .inl (y 1, 260, .inl mpl))] (none) [(am, .inr (8, [.int th, .int mb, .ref mo, .int us, .int me, .int rc, .int (zb dn), .int lf, .int mw, .int mf, .ref m_p, .ref m_w, .ref m_l, .ref m_v, .int ms, .int mu, .long ml, .ref m_r, .int res.1, .ref m_q])), (mo, .inl (y 4, 2, .inr (.inr (.inr (.inr (outr m1 m2)))))), (m1, .inl (y 0, nb, .inl c1)), (m2, .inl (y 0, nb, .inl c2)), (m_p, .inl (y 1, 121, .inl mpa)), (m_w, .inl (y 1, 121, .inl mwe)), (m_l, .inl (y 3, 121, .inl mli)), (m_v, .inl (y 2, 121, .inr (.inl mvo))), (m_r, .inl (y 0, 32, .inl res.2)), (m_q, .inl (y 1, 260, .inl mpl))] := by
  intro sz
  refine Met.ofW (cc := cX9_u4) (maxL := 2) (ret := none) (by decide) rfl ?_
  intro p e s m args below meth c s₁ B hml hv
  obtain ⟨rfl, hsz, hP, hK, hD0, hst, hno⟩ := hv
  have hx := B.exec
  have hb := B.bytes
  have hr := B.returns
  have hts := atoms_spec (ws := wsX9_u4) B.pre
  have hown : s.vm.findClass RX9 = some m.cls := findClass_of_methodNamed B.named
  have hlocks := B.notSynchronized
  subst hsz
  have hD := hD0.self (sz := s.heap.size)
  generalize hAe : va_A [(am, .inr (8, [.int th, .int mb, .ref mo, .int us, .int me, .int rc, .int (zb dn), .int lf, .int mw, .int mf, .ref m_p, .ref m_w, .ref m_l, .ref m_v, .int ms, .int mu, .long ml, .ref m_r, .int mz, .ref m_q])), (mo, .inl (y 4, 2, .inr (.inr (.inr (.inr (outr m1 m2)))))), (m1, .inl (y 0, nb, .inl c1)), (m2, .inl (y 0, nb, .inl c2)), (m_p, .inl (y 1, 121, .inl mpa)), (m_w, .inl (y 1, 121, .inl mwe)), (m_l, .inl (y 3, 121, .inl mli)), (m_v, .inl (y 2, 121, .inr (.inl mvo))), (m_r, .inl (y 0, 32, .inl mro)), (m_q, .inl (y 1, 260, .inl mpl))] s.heap.size = A at hD hst ⊢
  have hA : ∀ q : Nat, s.heap.size ≤ q → A q := fun q h => by rw [← hAe]; exact Or.inr h
  have hS : va_S A s.heap s.heap [] := va_S.rf
  have E : Ev D y A s := ⟨hK, hst, hno, hA⟩
  have hfix : CallFix p m c cX9_u4 2 s _ wsX9_u4 RX9 := ⟨hx, hb, hml, hown, hts⟩
  have hP : va_P D vwCl [(am, .inr (8, [.int th, .int mb, .ref mo, .int us, .int me, .int rc, .int (zb dn), .int lf, .int mw, .int mf, .ref m_p, .ref m_w, .ref m_l, .ref m_v, .int ms, .int mu, .long ml, .ref m_r, .int mz, .ref m_q])), (mo, .inl (y 4, 2, .inr (.inr (.inr (.inr (outr m1 m2)))))), (m1, .inl (y 0, nb, .inl c1)), (m2, .inl (y 0, nb, .inl c2)), (m_p, .inl (y 1, 121, .inl mpa)), (m_w, .inl (y 1, 121, .inl mwe)), (m_l, .inl (y 3, 121, .inl mli)), (m_v, .inl (y 2, 121, .inr (.inl mvo))), (m_r, .inl (y 0, 32, .inl mro)), (m_q, .inl (y 1, 260, .inl mpl))] s.heap := hP
  have hl := lv_entry ([.ref am, .int p1]) (n := 2) (Nat.le_of_ble_eq_true rfl)
  rw [lg_entry_eq]
  generalize (lg_sl ([.ref am, .int p1]) ++ List.replicate (2 - (lg_sl ([.ref am, .int p1])).length) Slot.unset).toArray = ls at hl ⊢
  have hl : lv_has ls 2 [(0, .ref am), (1, .int p1)] := hl
  unfold fX9_u4 at hf
  refine lv_aload_n hx hb dX9_u4_0 rfl (lv_at hl 0 rfl) ?_
  refine lv_iload_n hx hb dX9_u4_1 rfl (lv_at hl 1 rfl) ?_
  refine lv_bipush (v := (16 : Int32)) hx hb dX9_u4_2 (by decide) ?_
  refine lv_ishr hx hb dX9_u4_4 ?_
  obtain ⟨⟨o_mz_1, o_mro_2⟩, hc_3, hf⟩ := obd hf
  refine ct_V (As := [.int (p1 >>> ((16 : Int32) &&& 31))]) (rest := []) (wr := []) (wn := [(am, .inr (8, [.int th, .int mb, .ref mo, .int us, .int me, .int rc, .int (zb dn), .int lf, .int mw, .int mf, .ref m_p, .ref m_w, .ref m_l, .ref m_v, .int ms, .int mu, .long ml, .ref m_r, .int o_mz_1, .ref m_q])), (mo, .inl (y 4, 2, .inr (.inr (.inr (.inr (outr m1 m2)))))), (m1, .inl (y 0, nb, .inl c1)), (m2, .inl (y 0, nb, .inl c2)), (m_p, .inl (y 1, 121, .inl mpa)), (m_w, .inl (y 1, 121, .inl mwe)), (m_l, .inl (y 3, 121, .inl mli)), (m_v, .inl (y 2, 121, .inr (.inl mvo))), (m_r, .inl (y 0, 32, .inl o_mro_2)), (m_q, .inl (y 1, 260, .inl mpl))]) hfix (cX9_u2_ok l D y am mo m1 m2 m_p m_w m_l m_v m_r m_q nb th mb us me rc dn lf mw mf ms mu ml mz c1 c2 mpa mwe mli mvo mro mpl (p1 >>> ((16 : Int32) &&& 31)) _ hc_3) (cwV 1 hts gX9_u4_X9_u2 rfl rfl rfl (by decide +kernel) ⟨Nat.le_of_ble_eq_true rfl, Nat.le_of_ble_eq_true rfl⟩) E hP hD hS [0, 1, 2, 3, 4, 5, 6, 7, 8, 9] [] [0, 1, 2, 3, 4, 5, 6, 7, 8, 9] rfl rfl rfl rfl (by decide) rfl rfl 0 8 rfl rfl rfl hl.1 rfl (Nat.le_of_ble_eq_true rfl) dX9_u4_5 ⟨Nat.zero_le _, Nat.zero_le _⟩ (fun H locs hP hD hS => ?_)
  refine W.eq (g2 := F0 m 8 ls []) rfl ?_
  refine lv_aload_n hx hb dX9_u4_8 rfl (lv_at hl 0 rfl) ?_
  refine lv_iload_n hx hb dX9_u4_9 rfl (lv_at hl 1 rfl) ?_
  obtain ⟨⟨o_mz_4, o_mro_5⟩, hc_6, hf⟩ := obd hf
  refine ct_V (As := [.int p1]) (rest := []) (wr := []) (wn := [(am, .inr (8, [.int th, .int mb, .ref mo, .int us, .int me, .int rc, .int (zb dn), .int lf, .int mw, .int mf, .ref m_p, .ref m_w, .ref m_l, .ref m_v, .int ms, .int mu, .long ml, .ref m_r, .int o_mz_4, .ref m_q])), (mo, .inl (y 4, 2, .inr (.inr (.inr (.inr (outr m1 m2)))))), (m1, .inl (y 0, nb, .inl c1)), (m2, .inl (y 0, nb, .inl c2)), (m_p, .inl (y 1, 121, .inl mpa)), (m_w, .inl (y 1, 121, .inl mwe)), (m_l, .inl (y 3, 121, .inl mli)), (m_v, .inl (y 2, 121, .inr (.inl mvo))), (m_r, .inl (y 0, 32, .inl o_mro_5)), (m_q, .inl (y 1, 260, .inl mpl))]) hfix (cX9_u2_ok l D y am mo m1 m2 m_p m_w m_l m_v m_r m_q nb th mb us me rc dn lf mw mf ms mu ml o_mz_1 c1 c2 mpa mwe mli mvo o_mro_2 mpl p1 _ hc_6) (cwV 1 hts gX9_u4_X9_u2 rfl rfl rfl (by decide +kernel) ⟨Nat.le_of_ble_eq_true rfl, Nat.le_of_ble_eq_true rfl⟩) E hP hD hS [0, 1, 2, 3, 4, 5, 6, 7, 8, 9] [] [0, 1, 2, 3, 4, 5, 6, 7, 8, 9] rfl rfl rfl rfl (by decide) rfl rfl 0 8 rfl rfl rfl hl.1 rfl (Nat.le_of_ble_eq_true rfl) dX9_u4_10 ⟨Nat.zero_le _, Nat.zero_le _⟩ (fun H locs hP hD hS => ?_)
  refine W.eq (g2 := F0 m 13 ls []) rfl ?_
  obtain rfl := Option.some.inj hf
  exact W.vret hx hb hr (fun t ht hW => ⟨⟨(), rfl, by rw [ht]; exact hP, hD⟩, hS.F ht⟩) hS.2.2 dX9_u4_13

def fX9_u8 (mz : Int32) (mro : Nat → Int32) (p1 : Int64) : Option (Int32 × (Nat → Int32)) := ((fX9_u4 mz mro ((jlshr p1 (32 : Int32)).toInt32)).bind fun (o_mz_1, o_mro_2) => ((fX9_u4 o_mz_1 o_mro_2 (p1.toInt32)).bind fun (o_mz_4, o_mro_5) => some (o_mz_4, o_mro_5)))

set_option maxHeartbeats 4000000 in
set_option maxRecDepth 100000 in
theorem cX9_u8_ok (l : Launch) (D : va_G) (y : Nat → ClassId) (am : Nat) (mo : Nat) (m1 : Nat) (m2 : Nat) (m_p : Nat) (m_w : Nat) (m_l : Nat) (m_v : Nat) (m_r : Nat) (m_q : Nat) (nb : Nat) (th : Int32) (mb : Int32) (us : Int32) (me : Int32) (rc : Int32) (dn : Bool) (lf : Int32) (mw : Int32) (mf : Int32) (ms : Int32) (mu : Int32) (ml : Int64) (mz : Int32) (c1 : Nat → Int32) (c2 : Nat → Int32) (mpa : Nat → Int32) (mwe : Nat → Int32) (mli : Nat → Int32) (mvo : Nat → Int64) (mro : Nat → Int32) (mpl : Nat → Int32) (p1 : Int64) (res : Int32 × (Nat → Int32)) (hf : fX9_u8 mz mro p1 = some res) : CT l D y yX9_u8 wsX9_u8 ({ frames := 3, cells := 0, slots := 0, locals := 63 } : Room) [.ref am, .long p1] [(am, .inr (8, [.int th, .int mb, .ref mo, .int us, .int me, .int rc, .int (zb dn), .int lf, .int mw, .int mf, .ref m_p, .ref m_w, .ref m_l, .ref m_v, .int ms, .int mu, .long ml, .ref m_r, .int mz, .ref m_q])), (mo, .inl (y 4, 2, .inr (.inr (.inr (.inr (outr m1 m2)))))), (m1, .inl (y 0, nb, .inl c1)), (m2, .inl (y 0, nb, .inl c2)), (m_p, .inl (y 1, 121, .inl mpa)), (m_w, .inl (y 1, 121, .inl mwe)), (m_l, .inl (y 3, 121, .inl mli)), (m_v, .inl (y 2, 121, .inr (.inl mvo))), (m_r, .inl (y 0, 32, .inl mro)), (m_q, .inl (y 1, 260, .inl mpl))] (none) [(am, .inr (8, [.int th, .int mb, .ref mo, .int us, .int me, .int rc, .int (zb dn), .int lf, .int mw, .int mf, .ref m_p, .ref m_w, .ref m_l, .ref m_v, .int ms, .int mu, .long ml, .ref m_r, .int res.1, .ref m_q])), (mo, .inl (y 4, 2, .inr (.inr (.inr (.inr (outr m1 m2)))))), (m1, .inl (y 0, nb, .inl c1)), (m2, .inl (y 0, nb, .inl c2)), (m_p, .inl (y 1, 121, .inl mpa)), (m_w, .inl (y 1, 121, .inl mwe)), (m_l, .inl (y 3, 121, .inl mli)), (m_v, .inl (y 2, 121, .inr (.inl mvo))), (m_r, .inl (y 0, 32, .inl res.2)), (m_q, .inl (y 1, 260, .inl mpl))] := by
  intro sz
  refine Met.ofW (cc := cX9_u8) (maxL := 3) (ret := none) (by decide) rfl ?_
  intro p e s m args below meth c s₁ B hml hv
  obtain ⟨rfl, hsz, hP, hK, hD0, hst, hno⟩ := hv
  have hx := B.exec
  have hb := B.bytes
  have hr := B.returns
  have hts := atoms_spec (ws := wsX9_u8) B.pre
  have hown : s.vm.findClass RX9 = some m.cls := findClass_of_methodNamed B.named
  have hlocks := B.notSynchronized
  subst hsz
  have hD := hD0.self (sz := s.heap.size)
  generalize hAe : va_A [(am, .inr (8, [.int th, .int mb, .ref mo, .int us, .int me, .int rc, .int (zb dn), .int lf, .int mw, .int mf, .ref m_p, .ref m_w, .ref m_l, .ref m_v, .int ms, .int mu, .long ml, .ref m_r, .int mz, .ref m_q])), (mo, .inl (y 4, 2, .inr (.inr (.inr (.inr (outr m1 m2)))))), (m1, .inl (y 0, nb, .inl c1)), (m2, .inl (y 0, nb, .inl c2)), (m_p, .inl (y 1, 121, .inl mpa)), (m_w, .inl (y 1, 121, .inl mwe)), (m_l, .inl (y 3, 121, .inl mli)), (m_v, .inl (y 2, 121, .inr (.inl mvo))), (m_r, .inl (y 0, 32, .inl mro)), (m_q, .inl (y 1, 260, .inl mpl))] s.heap.size = A at hD hst ⊢
  have hA : ∀ q : Nat, s.heap.size ≤ q → A q := fun q h => by rw [← hAe]; exact Or.inr h
  have hS : va_S A s.heap s.heap [] := va_S.rf
  have E : Ev D y A s := ⟨hK, hst, hno, hA⟩
  have hfix : CallFix p m c cX9_u8 3 s _ wsX9_u8 RX9 := ⟨hx, hb, hml, hown, hts⟩
  have hP : va_P D vwCl [(am, .inr (8, [.int th, .int mb, .ref mo, .int us, .int me, .int rc, .int (zb dn), .int lf, .int mw, .int mf, .ref m_p, .ref m_w, .ref m_l, .ref m_v, .int ms, .int mu, .long ml, .ref m_r, .int mz, .ref m_q])), (mo, .inl (y 4, 2, .inr (.inr (.inr (.inr (outr m1 m2)))))), (m1, .inl (y 0, nb, .inl c1)), (m2, .inl (y 0, nb, .inl c2)), (m_p, .inl (y 1, 121, .inl mpa)), (m_w, .inl (y 1, 121, .inl mwe)), (m_l, .inl (y 3, 121, .inl mli)), (m_v, .inl (y 2, 121, .inr (.inl mvo))), (m_r, .inl (y 0, 32, .inl mro)), (m_q, .inl (y 1, 260, .inl mpl))] s.heap := hP
  have hl := lv_entry ([.ref am, .long p1]) (n := 3) (Nat.le_of_ble_eq_true rfl)
  rw [lg_entry_eq]
  generalize (lg_sl ([.ref am, .long p1]) ++ List.replicate (3 - (lg_sl ([.ref am, .long p1])).length) Slot.unset).toArray = ls at hl ⊢
  have hl : lv_has ls 3 [(0, .ref am), (1, .long p1)] := hl
  unfold fX9_u8 at hf
  refine lv_aload_n hx hb dX9_u8_0 rfl (lv_at hl 0 rfl) ?_
  refine lv_lload_n hx hb dX9_u8_1 rfl (lv_at hl 1 rfl) ?_
  refine lv_bipush (v := (32 : Int32)) hx hb dX9_u8_2 (by decide) ?_
  refine lv_lshr (v := (jlshr p1 (32 : Int32))) hx hb dX9_u8_4 rfl ?_
  refine lv_l2i (v := ((jlshr p1 (32 : Int32)).toInt32)) hx hb dX9_u8_5 rfl ?_
  obtain ⟨⟨o_mz_1, o_mro_2⟩, hc_3, hf⟩ := obd hf
  refine ct_V (As := [.int ((jlshr p1 (32 : Int32)).toInt32)]) (rest := []) (wr := []) (wn := [(am, .inr (8, [.int th, .int mb, .ref mo, .int us, .int me, .int rc, .int (zb dn), .int lf, .int mw, .int mf, .ref m_p, .ref m_w, .ref m_l, .ref m_v, .int ms, .int mu, .long ml, .ref m_r, .int o_mz_1, .ref m_q])), (mo, .inl (y 4, 2, .inr (.inr (.inr (.inr (outr m1 m2)))))), (m1, .inl (y 0, nb, .inl c1)), (m2, .inl (y 0, nb, .inl c2)), (m_p, .inl (y 1, 121, .inl mpa)), (m_w, .inl (y 1, 121, .inl mwe)), (m_l, .inl (y 3, 121, .inl mli)), (m_v, .inl (y 2, 121, .inr (.inl mvo))), (m_r, .inl (y 0, 32, .inl o_mro_2)), (m_q, .inl (y 1, 260, .inl mpl))]) hfix (cX9_u4_ok l D y am mo m1 m2 m_p m_w m_l m_v m_r m_q nb th mb us me rc dn lf mw mf ms mu ml mz c1 c2 mpa mwe mli mvo mro mpl ((jlshr p1 (32 : Int32)).toInt32) _ hc_3) (cwV 1 hts gX9_u8_X9_u4 rfl rfl rfl (by decide +kernel) ⟨Nat.le_of_ble_eq_true rfl, Nat.le_of_ble_eq_true rfl⟩) E hP hD hS [0, 1, 2, 3, 4, 5, 6, 7, 8, 9] [] [0, 1, 2, 3, 4, 5, 6, 7, 8, 9] rfl rfl rfl rfl (by decide) rfl rfl 0 8 rfl rfl rfl hl.1 rfl (Nat.le_of_ble_eq_true rfl) dX9_u8_6 ⟨Nat.zero_le _, Nat.zero_le _⟩ (fun H locs hP hD hS => ?_)
  refine W.eq (g2 := F0 m 9 ls []) rfl ?_
  refine lv_aload_n hx hb dX9_u8_9 rfl (lv_at hl 0 rfl) ?_
  refine lv_lload_n hx hb dX9_u8_10 rfl (lv_at hl 1 rfl) ?_
  refine lv_l2i (v := (p1.toInt32)) hx hb dX9_u8_11 rfl ?_
  obtain ⟨⟨o_mz_4, o_mro_5⟩, hc_6, hf⟩ := obd hf
  refine ct_V (As := [.int (p1.toInt32)]) (rest := []) (wr := []) (wn := [(am, .inr (8, [.int th, .int mb, .ref mo, .int us, .int me, .int rc, .int (zb dn), .int lf, .int mw, .int mf, .ref m_p, .ref m_w, .ref m_l, .ref m_v, .int ms, .int mu, .long ml, .ref m_r, .int o_mz_4, .ref m_q])), (mo, .inl (y 4, 2, .inr (.inr (.inr (.inr (outr m1 m2)))))), (m1, .inl (y 0, nb, .inl c1)), (m2, .inl (y 0, nb, .inl c2)), (m_p, .inl (y 1, 121, .inl mpa)), (m_w, .inl (y 1, 121, .inl mwe)), (m_l, .inl (y 3, 121, .inl mli)), (m_v, .inl (y 2, 121, .inr (.inl mvo))), (m_r, .inl (y 0, 32, .inl o_mro_5)), (m_q, .inl (y 1, 260, .inl mpl))]) hfix (cX9_u4_ok l D y am mo m1 m2 m_p m_w m_l m_v m_r m_q nb th mb us me rc dn lf mw mf ms mu ml o_mz_1 c1 c2 mpa mwe mli mvo o_mro_2 mpl (p1.toInt32) _ hc_6) (cwV 1 hts gX9_u8_X9_u4 rfl rfl rfl (by decide +kernel) ⟨Nat.le_of_ble_eq_true rfl, Nat.le_of_ble_eq_true rfl⟩) E hP hD hS [0, 1, 2, 3, 4, 5, 6, 7, 8, 9] [] [0, 1, 2, 3, 4, 5, 6, 7, 8, 9] rfl rfl rfl rfl (by decide) rfl rfl 0 8 rfl rfl rfl hl.1 rfl (Nat.le_of_ble_eq_true rfl) dX9_u8_12 ⟨Nat.zero_le _, Nat.zero_le _⟩ (fun H locs hP hD hS => ?_)
  refine W.eq (g2 := F0 m 15 ls []) rfl ?_
  obtain rfl := Option.some.inj hf
  exact W.vret hx hb hr (fun t ht hW => ⟨⟨(), rfl, by rw [ht]; exact hP, hD⟩, hS.F ht⟩) hS.2.2 dX9_u8_15

def fX9_crc_25 (v5_1 : Int32) (k5 : Int32 → Int32 → Option (Int32)) : Nat → Int32 → Int32 → Option (Int32)
  | 0, _, _ => none
  | n25 + 1, v25_0, v25_1 => (if (8 : Int32) ≤ v25_1 then k5 v25_0 (v5_1 + (1 : Int32)) else (if (v25_0 &&& (1 : Int32)) = 0 then fX9_crc_25 v5_1 k5 n25 (jiushr v25_0 (1 : Int32)) (v25_1 + (1 : Int32)) else fX9_crc_25 v5_1 k5 n25 ((jiushr v25_0 (1 : Int32)) ^^^ (-306674912 : Int32)) (v25_1 + (1 : Int32))))

def fX9_crc_5 (nb : Nat) (bb : Nat → Int32) (p3 : Int32) : Nat → Int32 → Int32 → Option (Int32)
  | 0, _, _ => none
  | n5 + 1, v5_0, v5_1 => (if p3 ≤ v5_1 then some (v5_0 ^^^ (-1 : Int32)) else (if (ib v5_1 nb) = true then fX9_crc_25 v5_1 (fX9_crc_5 nb bb p3 n5) FU (v5_0 ^^^ ((bb v5_1.toNatClampNeg) &&& (255 : Int32))) (0 : Int32) else none))

def fX9_crc (nb : Nat) (bb : Nat → Int32) (p2 : Int32) (p3 : Int32) : Option (Int32) := fX9_crc_5 nb bb p3 FU (-1 : Int32) p2

set_option maxHeartbeats 4000000 in
set_option maxRecDepth 100000 in
theorem cX9_crc_ok (l : Launch) (D : va_G) (y : Nat → ClassId) (ar : Nat) (nb : Nat) (bb : Nat → Int32) (p2 : Int32) (p3 : Int32) (res : Int32) (hf : fX9_crc nb bb p2 p3 = some res) : CT l D y yX9_crc wsX9_crc ({ frames := 0, cells := 0, slots := 0, locals := 0 } : Room) [.ref ar, .int p2, .int p3] [(ar, .inl (y 0, nb, .inl bb))] (some (.int res)) [(ar, .inl (y 0, nb, .inl bb))] := by
  intro sz
  refine Met.ofW (cc := cX9_crc) (maxL := 6) (ret := (some .int)) (by decide) rfl ?_
  intro p e s m args below meth c s₁ B hml hv
  obtain ⟨rfl, hsz, hP, hK, hD0, hst, hno⟩ := hv
  have hx := B.exec
  have hb := B.bytes
  have hr := B.returns
  have hts := atoms_spec (ws := wsX9_crc) B.pre
  have hown : s.vm.findClass RX9 = some m.cls := findClass_of_methodNamed B.named
  have hlocks := B.notSynchronized
  subst hsz
  have hD := hD0.self (sz := s.heap.size)
  generalize hAe : va_A [(ar, .inl (y 0, nb, .inl bb))] s.heap.size = A at hD hst ⊢
  have hA : ∀ q : Nat, s.heap.size ≤ q → A q := fun q h => by rw [← hAe]; exact Or.inr h
  have hS : va_S A s.heap s.heap [] := va_S.rf
  have E : Ev D y A s := ⟨hK, hst, hno, hA⟩
  have hfix : CallFix p m c cX9_crc 6 s _ wsX9_crc RX9 := ⟨hx, hb, hml, hown, hts⟩
  have hP : va_P D vwCl [(ar, .inl (y 0, nb, .inl bb))] s.heap := hP
  have hl := lv_entry ([.ref ar, .int p2, .int p3]) (n := 6) (Nat.le_of_ble_eq_true rfl)
  rw [lg_entry_eq]
  generalize (lg_sl ([.ref ar, .int p2, .int p3]) ++ List.replicate (6 - (lg_sl ([.ref ar, .int p2, .int p3])).length) Slot.unset).toArray = ls at hl ⊢
  have hl : lv_has ls 6 [(0, .ref ar), (1, .int p2), (2, .int p3)] := hl
  have hL5 : ∀ (n5 : Nat) (v5_0 : Int32) (v5_1 : Int32) (H : Heap) (locs : List Loc) (ls : Array Slot), fX9_crc_5 nb bb p3 n5 v5_0 v5_1 = some res → va_P D vwCl [(ar, .inl (y 0, nb, .inl bb))] H → va_D A [(ar, .inl (y 0, nb, .inl bb))] → va_S A s.heap H locs → lv_has ls 6 [(0, .ref ar), (1, .int p2), (2, .int p3), (3, .int v5_0), (4, .int v5_1)] → W p l e (headSpec wsX9_crc ({ frames := 0, cells := 0, slots := 0, locals := 0 } : Room)).room s m ([.ref ar, .int p2, .int p3] : List Value).toArray below meth c H locs 0 0 (MQ below (Po D (fun _ : Unit => some (.int res)) (fun _ => [(ar, .inl (y 0, nb, .inl bb))]) A) ([.ref ar, .int p2, .int p3] : List Value).toArray s 0 0 A) (F0 m 5 ls []) := by
    intro n5
    induction n5 with
    | zero =>
      intro v5_0 v5_1 H locs ls hf
      exact absurd (show (none : Option (Int32)) = some res from hf) (fun q => by cases q)
    | succ n5 ih5 =>
      intro v5_0 v5_1 H locs ls hf hP hD hS hl
      unfold fX9_crc_5 at hf
      have hL25 : ∀ (n25 : Nat) (v25_0 : Int32) (v25_1 : Int32) (H : Heap) (locs : List Loc) (ls : Array Slot), fX9_crc_25 v5_1 (fX9_crc_5 nb bb p3 n5) n25 v25_0 v25_1 = some res → va_P D vwCl [(ar, .inl (y 0, nb, .inl bb))] H → va_D A [(ar, .inl (y 0, nb, .inl bb))] → va_S A s.heap H locs → lv_has ls 6 [(0, .ref ar), (1, .int p2), (2, .int p3), (3, .int v25_0), (4, .int v5_1), (5, .int v25_1)] → W p l e (headSpec wsX9_crc ({ frames := 0, cells := 0, slots := 0, locals := 0 } : Room)).room s m ([.ref ar, .int p2, .int p3] : List Value).toArray below meth c H locs 0 0 (MQ below (Po D (fun _ : Unit => some (.int res)) (fun _ => [(ar, .inl (y 0, nb, .inl bb))]) A) ([.ref ar, .int p2, .int p3] : List Value).toArray s 0 0 A) (F0 m 25 ls []) := by
        intro n25
        induction n25 with
        | zero =>
          intro v25_0 v25_1 H locs ls hf
          exact absurd (show (none : Option (Int32)) = some res from hf) (fun q => by cases q)
        | succ n25 ih25 =>
          intro v25_0 v25_1 H locs ls hf hP hD hS hl
          unfold fX9_crc_25 at hf
          refine lv_iload hx hb dX9_crc_25 (lv_at hl 5 rfl) ?_
          refine lv_bipush (v := (8 : Int32)) hx hb dX9_crc_27 (by decide) ?_
          refine lv_icmp_ge (tgt := 57) hx hb dX9_crc_29 (by decide) (fun c_1 => ?_) (fun c_1 => ?_)
          · have hf := ifp hf c_1
            refine lv_iinc (v := (v5_1 + (1 : Int32))) (lv' := [(4, .int (v5_1 + (1 : Int32))), (0, .ref ar), (1, .int p2), (2, .int p3), (3, .int v25_0), (5, .int v25_1)]) hx hb dX9_crc_57 hl (k := 4) rfl rfl (by decide) rfl (fun ls hl => ?_)
            refine lv_goto (tgt := 5) hx hb dX9_crc_60 (by decide) ?_
            exact ih5 v25_0 (v5_1 + (1 : Int32)) _ _ _ hf hP hD hS (lv_sub hl [1, 2, 3, 4, 0] rfl)
          · have hf := ifn hf c_1
            refine lv_iload_n hx hb dX9_crc_32 rfl (lv_at hl 3 rfl) ?_
            refine lv_iconst (v := (1 : Int32)) hx hb dX9_crc_33 (by decide) ?_
            refine lv_iand hx hb dX9_crc_34 ?_
            refine lv_if_eq (tgt := 47) hx hb dX9_crc_35 (by decide) (fun c_2 => ?_) (fun c_2 => ?_)
            · have hf := ifp hf c_2
              refine lv_iload_n hx hb dX9_crc_47 rfl (lv_at hl 3 rfl) ?_
              refine lv_iconst (v := (1 : Int32)) hx hb dX9_crc_48 (by decide) ?_
              refine lv_iushr (v := (jiushr v25_0 (1 : Int32))) hx hb dX9_crc_49 rfl ?_
              refine lv_istore_n (lv' := [(3, .int (jiushr v25_0 (1 : Int32))), (0, .ref ar), (1, .int p2), (2, .int p3), (4, .int v5_1), (5, .int v25_1)]) hx hb dX9_crc_50 rfl hl (by decide) rfl (fun ls hl => ?_)
              refine lv_iinc (v := (v25_1 + (1 : Int32))) (lv' := [(5, .int (v25_1 + (1 : Int32))), (3, .int (jiushr v25_0 (1 : Int32))), (0, .ref ar), (1, .int p2), (2, .int p3), (4, .int v5_1)]) hx hb dX9_crc_51 hl (k := 5) rfl rfl (by decide) rfl (fun ls hl => ?_)
              refine lv_goto (tgt := 25) hx hb dX9_crc_54 (by decide) ?_
              exact ih25 (jiushr v25_0 (1 : Int32)) (v25_1 + (1 : Int32)) _ _ _ hf hP hD hS (lv_sub hl [2, 3, 4, 1, 5, 0] rfl)
            · have hf := ifn hf c_2
              refine lv_iload_n hx hb dX9_crc_38 rfl (lv_at hl 3 rfl) ?_
              refine lv_iconst (v := (1 : Int32)) hx hb dX9_crc_39 (by decide) ?_
              refine lv_iushr (v := (jiushr v25_0 (1 : Int32))) hx hb dX9_crc_40 rfl ?_
              refine lv_ldc (v := (-306674912 : Int32)) hx hb hown (hts (.constant RX9 66 (-306674912 : Int32)) (by decide +kernel)) dX9_crc_41 ?_
              refine lv_ixor hx hb dX9_crc_43 ?_
              refine lv_goto (tgt := 50) hx hb dX9_crc_44 (by decide) ?_
              refine lv_istore_n (lv' := [(3, .int ((jiushr v25_0 (1 : Int32)) ^^^ (-306674912 : Int32))), (0, .ref ar), (1, .int p2), (2, .int p3), (4, .int v5_1), (5, .int v25_1)]) hx hb dX9_crc_50 rfl hl (by decide) rfl (fun ls hl => ?_)
              refine lv_iinc (v := (v25_1 + (1 : Int32))) (lv' := [(5, .int (v25_1 + (1 : Int32))), (3, .int ((jiushr v25_0 (1 : Int32)) ^^^ (-306674912 : Int32))), (0, .ref ar), (1, .int p2), (2, .int p3), (4, .int v5_1)]) hx hb dX9_crc_51 hl (k := 5) rfl rfl (by decide) rfl (fun ls hl => ?_)
              refine lv_goto (tgt := 25) hx hb dX9_crc_54 (by decide) ?_
              exact ih25 ((jiushr v25_0 (1 : Int32)) ^^^ (-306674912 : Int32)) (v25_1 + (1 : Int32)) _ _ _ hf hP hD hS (lv_sub hl [2, 3, 4, 1, 5, 0] rfl)
      refine lv_iload hx hb dX9_crc_5 (lv_at hl 4 rfl) ?_
      refine lv_iload_n hx hb dX9_crc_7 rfl (lv_at hl 2 rfl) ?_
      refine lv_icmp_ge (tgt := 63) hx hb dX9_crc_8 (by decide) (fun c_3 => ?_) (fun c_3 => ?_)
      · have hf := ifp hf c_3
        refine lv_iload_n hx hb dX9_crc_63 rfl (lv_at hl 3 rfl) ?_
        refine lv_iconst (v := (-1 : Int32)) hx hb dX9_crc_64 (by decide) ?_
        refine lv_ixor hx hb dX9_crc_65 ?_
        obtain rfl := Option.some.inj hf
        exact W.iret hx hb hr (fun t ht hW => ⟨⟨(), rfl, by rw [ht]; exact hP, hD⟩, hS.F ht⟩) hS.2.2 dX9_crc_66
      · have hf := ifn hf c_3
        refine lv_iload_n hx hb dX9_crc_11 rfl (lv_at hl 3 rfl) ?_
        refine lv_aload_n hx hb dX9_crc_12 rfl (lv_at hl 0 rfl) ?_
        refine lv_iload hx hb dX9_crc_13 (lv_at hl 4 rfl) ?_
        obtain ⟨h_4, hf⟩ := ibk hf
        refine va_bald hx hb hK hP 0 0 rfl rfl (ib_in h_4) dX9_crc_15 ?_
        refine lv_sipush (v := (255 : Int32)) hx hb dX9_crc_16 (by decide) ?_
        refine lv_iand hx hb dX9_crc_19 ?_
        refine lv_ixor hx hb dX9_crc_20 ?_
        refine lv_istore_n (lv' := [(3, .int (v5_0 ^^^ ((bb v5_1.toNatClampNeg) &&& (255 : Int32)))), (0, .ref ar), (1, .int p2), (2, .int p3), (4, .int v5_1)]) hx hb dX9_crc_21 rfl hl (by decide) rfl (fun ls hl => ?_)
        refine lv_iconst (v := (0 : Int32)) hx hb dX9_crc_22 (by decide) ?_
        refine lv_istore (lv' := [(5, .int (0 : Int32)), (3, .int (v5_0 ^^^ ((bb v5_1.toNatClampNeg) &&& (255 : Int32)))), (0, .ref ar), (1, .int p2), (2, .int p3), (4, .int v5_1)]) hx hb dX9_crc_23 hl (by decide) rfl (fun ls hl => ?_)
        exact hL25 FU (v5_0 ^^^ ((bb v5_1.toNatClampNeg) &&& (255 : Int32))) (0 : Int32) _ _ _ hf hP hD hS (lv_sub hl [2, 3, 4, 1, 5, 0] rfl)
  unfold fX9_crc at hf
  refine lv_iconst (v := (-1 : Int32)) hx hb dX9_crc_0 (by decide) ?_
  refine lv_istore_n (lv' := [(3, .int (-1 : Int32)), (0, .ref ar), (1, .int p2), (2, .int p3)]) hx hb dX9_crc_1 rfl hl (by decide) rfl (fun ls hl => ?_)
  refine lv_iload_n hx hb dX9_crc_2 rfl (lv_at hl 2 rfl) ?_
  refine lv_istore (lv' := [(4, .int p2), (3, .int (-1 : Int32)), (0, .ref ar), (1, .int p2), (2, .int p3)]) hx hb dX9_crc_3 hl (by decide) rfl (fun ls hl => ?_)
  exact hL5 FU (-1 : Int32) p2 _ _ _ hf hP hD hS (lv_sub hl [2, 3, 4, 1, 0] rfl)

def fX9_take_5 (nb : Nat) (bb : Nat → Int32) (p2 : Int32) (p3 : Int32) : Nat → Int64 → Int32 → Option (Int64)
  | 0, _, _ => none
  | n5 + 1, v5_0, v5_1 => (if p3 ≤ v5_1 then some v5_0 else (if (ib (p2 + v5_1) nb) = true then fX9_take_5 nb bb p2 p3 n5 ((jlshl v5_0 (8 : Int32)) ||| (((bb (p2 + v5_1).toNatClampNeg) &&& (255 : Int32)).toInt64)) (v5_1 + (1 : Int32)) else none))

def fX9_take (nb : Nat) (bb : Nat → Int32) (p2 : Int32) (p3 : Int32) : Option (Int64) := fX9_take_5 nb bb p2 p3 FU (0 : Int64) (0 : Int32)

set_option maxHeartbeats 4000000 in
set_option maxRecDepth 100000 in
theorem cX9_take_ok (l : Launch) (D : va_G) (y : Nat → ClassId) (ar : Nat) (nb : Nat) (bb : Nat → Int32) (p2 : Int32) (p3 : Int32) (res : Int64) (hf : fX9_take nb bb p2 p3 = some res) : CT l D y yX9_take wsX9_take ({ frames := 0, cells := 0, slots := 0, locals := 0 } : Room) [.ref ar, .int p2, .int p3] [(ar, .inl (y 0, nb, .inl bb))] (some (.long res)) [(ar, .inl (y 0, nb, .inl bb))] := by
  intro sz
  refine Met.ofW (cc := cX9_take) (maxL := 6) (ret := (some .long)) (by decide) rfl ?_
  intro p e s m args below meth c s₁ B hml hv
  obtain ⟨rfl, hsz, hP, hK, hD0, hst, hno⟩ := hv
  have hx := B.exec
  have hb := B.bytes
  have hr := B.returns
  have hts := atoms_spec (ws := wsX9_take) B.pre
  have hown : s.vm.findClass RX9 = some m.cls := findClass_of_methodNamed B.named
  have hlocks := B.notSynchronized
  subst hsz
  have hD := hD0.self (sz := s.heap.size)
  generalize hAe : va_A [(ar, .inl (y 0, nb, .inl bb))] s.heap.size = A at hD hst ⊢
  have hA : ∀ q : Nat, s.heap.size ≤ q → A q := fun q h => by rw [← hAe]; exact Or.inr h
  have hS : va_S A s.heap s.heap [] := va_S.rf
  have E : Ev D y A s := ⟨hK, hst, hno, hA⟩
  have hfix : CallFix p m c cX9_take 6 s _ wsX9_take RX9 := ⟨hx, hb, hml, hown, hts⟩
  have hP : va_P D vwCl [(ar, .inl (y 0, nb, .inl bb))] s.heap := hP
  have hl := lv_entry ([.ref ar, .int p2, .int p3]) (n := 6) (Nat.le_of_ble_eq_true rfl)
  rw [lg_entry_eq]
  generalize (lg_sl ([.ref ar, .int p2, .int p3]) ++ List.replicate (6 - (lg_sl ([.ref ar, .int p2, .int p3])).length) Slot.unset).toArray = ls at hl ⊢
  have hl : lv_has ls 6 [(0, .ref ar), (1, .int p2), (2, .int p3)] := hl
  have hL5 : ∀ (n5 : Nat) (v5_0 : Int64) (v5_1 : Int32) (H : Heap) (locs : List Loc) (ls : Array Slot), fX9_take_5 nb bb p2 p3 n5 v5_0 v5_1 = some res → va_P D vwCl [(ar, .inl (y 0, nb, .inl bb))] H → va_D A [(ar, .inl (y 0, nb, .inl bb))] → va_S A s.heap H locs → lv_has ls 6 [(0, .ref ar), (1, .int p2), (2, .int p3), (3, .long v5_0), (5, .int v5_1)] → W p l e (headSpec wsX9_take ({ frames := 0, cells := 0, slots := 0, locals := 0 } : Room)).room s m ([.ref ar, .int p2, .int p3] : List Value).toArray below meth c H locs 0 0 (MQ below (Po D (fun _ : Unit => some (.long res)) (fun _ => [(ar, .inl (y 0, nb, .inl bb))]) A) ([.ref ar, .int p2, .int p3] : List Value).toArray s 0 0 A) (F0 m 5 ls []) := by
    intro n5
    induction n5 with
    | zero =>
      intro v5_0 v5_1 H locs ls hf
      exact absurd (show (none : Option (Int64)) = some res from hf) (fun q => by cases q)
    | succ n5 ih5 =>
      intro v5_0 v5_1 H locs ls hf hP hD hS hl
      unfold fX9_take_5 at hf
      refine lv_iload hx hb dX9_take_5 (lv_at hl 4 rfl) ?_
      refine lv_iload_n hx hb dX9_take_7 rfl (lv_at hl 2 rfl) ?_
      refine lv_icmp_ge (tgt := 34) hx hb dX9_take_8 (by decide) (fun c_1 => ?_) (fun c_1 => ?_)
      · have hf := ifp hf c_1
        refine lv_lload_n hx hb dX9_take_34 rfl (lv_at hl 3 rfl) ?_
        obtain rfl := Option.some.inj hf
        exact W.lret hx hb hr (fun t ht hW => ⟨⟨(), rfl, by rw [ht]; exact hP, hD⟩, hS.F ht⟩) hS.2.2 dX9_take_35
      · have hf := ifn hf c_1
        refine lv_lload_n hx hb dX9_take_11 rfl (lv_at hl 3 rfl) ?_
        refine lv_bipush (v := (8 : Int32)) hx hb dX9_take_12 (by decide) ?_
        refine lv_lshl (v := (jlshl v5_0 (8 : Int32))) hx hb dX9_take_14 rfl ?_
        refine lv_aload_n hx hb dX9_take_15 rfl (lv_at hl 0 rfl) ?_
        refine lv_iload_n hx hb dX9_take_16 rfl (lv_at hl 1 rfl) ?_
        refine lv_iload hx hb dX9_take_17 (lv_at hl 4 rfl) ?_
        refine lv_iadd hx hb dX9_take_19 ?_
        obtain ⟨h_2, hf⟩ := ibk hf
        refine va_bald hx hb hK hP 0 0 rfl rfl (ib_in h_2) dX9_take_20 ?_
        refine lv_sipush (v := (255 : Int32)) hx hb dX9_take_21 (by decide) ?_
        refine lv_iand hx hb dX9_take_24 ?_
        refine lv_i2l (v := (((bb (p2 + v5_1).toNatClampNeg) &&& (255 : Int32)).toInt64)) hx hb dX9_take_25 rfl ?_
        refine lv_lor hx hb dX9_take_26 ?_
        refine lv_lstore_n (lv' := [(3, .long ((jlshl v5_0 (8 : Int32)) ||| (((bb (p2 + v5_1).toNatClampNeg) &&& (255 : Int32)).toInt64))), (0, .ref ar), (1, .int p2), (2, .int p3), (5, .int v5_1)]) hx hb dX9_take_27 rfl hl (by decide) rfl (fun ls hl => ?_)
        refine lv_iinc (v := (v5_1 + (1 : Int32))) (lv' := [(5, .int (v5_1 + (1 : Int32))), (3, .long ((jlshl v5_0 (8 : Int32)) ||| (((bb (p2 + v5_1).toNatClampNeg) &&& (255 : Int32)).toInt64))), (0, .ref ar), (1, .int p2), (2, .int p3)]) hx hb dX9_take_28 hl (k := 4) rfl rfl (by decide) rfl (fun ls hl => ?_)
        refine lv_goto (tgt := 5) hx hb dX9_take_31 (by decide) ?_
        exact ih5 ((jlshl v5_0 (8 : Int32)) ||| (((bb (p2 + v5_1).toNatClampNeg) &&& (255 : Int32)).toInt64)) (v5_1 + (1 : Int32)) _ _ _ hf hP hD hS (lv_sub hl [2, 3, 4, 1, 0] rfl)
  unfold fX9_take at hf
  refine lv_lconst (v := (0 : Int64)) hx hb dX9_take_0 (by decide) ?_
  refine lv_lstore_n (lv' := [(3, .long (0 : Int64)), (0, .ref ar), (1, .int p2), (2, .int p3)]) hx hb dX9_take_1 rfl hl (by decide) rfl (fun ls hl => ?_)
  refine lv_iconst (v := (0 : Int32)) hx hb dX9_take_2 (by decide) ?_
  refine lv_istore (lv' := [(5, .int (0 : Int32)), (3, .long (0 : Int64)), (0, .ref ar), (1, .int p2), (2, .int p3)]) hx hb dX9_take_3 hl (by decide) rfl (fun ls hl => ?_)
  exact hL5 FU (0 : Int64) (0 : Int32) _ _ _ hf hP hD hS (lv_sub hl [2, 3, 4, 1, 0] rfl)

def fX9_lengthOf (p1 : Int32) : Option (Int32) := (if p1 = (1 : Int32) then some (17 : Int32) else (if p1 = (2 : Int32) then some (19 : Int32) else (if p1 = (3 : Int32) then some (11 : Int32) else (if p1 = (4 : Int32) then some (10 : Int32) else (if p1 = (5 : Int32) then some (8 : Int32) else (if p1 = (6 : Int32) then some (19 : Int32) else some (16 : Int32)))))))

set_option maxHeartbeats 4000000 in
set_option maxRecDepth 100000 in
theorem cX9_lengthOf_ok (l : Launch) (D : va_G) (y : Nat → ClassId) (p1 : Int32) (res : Int32) (hf : fX9_lengthOf p1 = some res) : CT l D y yX9_lengthOf wsX9_lengthOf ({ frames := 0, cells := 0, slots := 0, locals := 0 } : Room) [.int p1] [] (some (.int res)) [] := by
  intro sz
  refine Met.ofW (cc := cX9_lengthOf) (maxL := 1) (ret := (some .int)) (by decide) rfl ?_
  intro p e s m args below meth c s₁ B hml hv
  obtain ⟨rfl, hsz, hP, hK, hD0, hst, hno⟩ := hv
  have hx := B.exec
  have hb := B.bytes
  have hr := B.returns
  have hts := atoms_spec (ws := wsX9_lengthOf) B.pre
  have hown : s.vm.findClass RX9 = some m.cls := findClass_of_methodNamed B.named
  have hlocks := B.notSynchronized
  subst hsz
  have hD := hD0.self (sz := s.heap.size)
  generalize hAe : va_A [] s.heap.size = A at hD hst ⊢
  have hA : ∀ q : Nat, s.heap.size ≤ q → A q := fun q h => by rw [← hAe]; exact Or.inr h
  have hS : va_S A s.heap s.heap [] := va_S.rf
  have E : Ev D y A s := ⟨hK, hst, hno, hA⟩
  have hfix : CallFix p m c cX9_lengthOf 1 s _ wsX9_lengthOf RX9 := ⟨hx, hb, hml, hown, hts⟩
  have hP : va_P D vwCl [] s.heap := hP
  have hl := lv_entry ([.int p1]) (n := 1) (Nat.le_of_ble_eq_true rfl)
  rw [lg_entry_eq]
  generalize (lg_sl ([.int p1]) ++ List.replicate (1 - (lg_sl ([.int p1])).length) Slot.unset).toArray = ls at hl ⊢
  have hl : lv_has ls 1 [(0, .int p1)] := hl
  unfold fX9_lengthOf at hf
  refine lv_iload_n hx hb dX9_lengthOf_0 rfl (lv_at hl 0 rfl) ?_
  by_cases c_1 : p1 = (1 : Int32)
  · have hf := ifp hf c_1
    refine lv_tableIn (off := 39) (tgt := 40) hx hb dX9_lengthOf_1 (by rw [c_1]; decide) (by rw [c_1]; decide) (by rw [c_1]; decide) (by decide) ?_
    refine lv_bipush (v := (17 : Int32)) hx hb dX9_lengthOf_40 (by decide) ?_
    obtain rfl := Option.some.inj hf
    exact W.iret hx hb hr (fun t ht hW => ⟨⟨(), rfl, by rw [ht]; exact hP, hD⟩, hS.F ht⟩) hS.2.2 dX9_lengthOf_42
  · have hf := ifn hf c_1
    by_cases c_2 : p1 = (2 : Int32)
    · have hf := ifp hf c_2
      refine lv_tableIn (off := 42) (tgt := 43) hx hb dX9_lengthOf_1 (by rw [c_2]; decide) (by rw [c_2]; decide) (by rw [c_2]; decide) (by decide) ?_
      refine lv_bipush (v := (19 : Int32)) hx hb dX9_lengthOf_43 (by decide) ?_
      obtain rfl := Option.some.inj hf
      exact W.iret hx hb hr (fun t ht hW => ⟨⟨(), rfl, by rw [ht]; exact hP, hD⟩, hS.F ht⟩) hS.2.2 dX9_lengthOf_45
    · have hf := ifn hf c_2
      by_cases c_3 : p1 = (3 : Int32)
      · have hf := ifp hf c_3
        refine lv_tableIn (off := 45) (tgt := 46) hx hb dX9_lengthOf_1 (by rw [c_3]; decide) (by rw [c_3]; decide) (by rw [c_3]; decide) (by decide) ?_
        refine lv_bipush (v := (11 : Int32)) hx hb dX9_lengthOf_46 (by decide) ?_
        obtain rfl := Option.some.inj hf
        exact W.iret hx hb hr (fun t ht hW => ⟨⟨(), rfl, by rw [ht]; exact hP, hD⟩, hS.F ht⟩) hS.2.2 dX9_lengthOf_48
      · have hf := ifn hf c_3
        by_cases c_4 : p1 = (4 : Int32)
        · have hf := ifp hf c_4
          refine lv_tableIn (off := 48) (tgt := 49) hx hb dX9_lengthOf_1 (by rw [c_4]; decide) (by rw [c_4]; decide) (by rw [c_4]; decide) (by decide) ?_
          refine lv_bipush (v := (10 : Int32)) hx hb dX9_lengthOf_49 (by decide) ?_
          obtain rfl := Option.some.inj hf
          exact W.iret hx hb hr (fun t ht hW => ⟨⟨(), rfl, by rw [ht]; exact hP, hD⟩, hS.F ht⟩) hS.2.2 dX9_lengthOf_51
        · have hf := ifn hf c_4
          by_cases c_5 : p1 = (5 : Int32)
          · have hf := ifp hf c_5
            refine lv_tableIn (off := 51) (tgt := 52) hx hb dX9_lengthOf_1 (by rw [c_5]; decide) (by rw [c_5]; decide) (by rw [c_5]; decide) (by decide) ?_
            refine lv_bipush (v := (8 : Int32)) hx hb dX9_lengthOf_52 (by decide) ?_
            obtain rfl := Option.some.inj hf
            exact W.iret hx hb hr (fun t ht hW => ⟨⟨(), rfl, by rw [ht]; exact hP, hD⟩, hS.F ht⟩) hS.2.2 dX9_lengthOf_54
          · have hf := ifn hf c_5
            by_cases c_6 : p1 = (6 : Int32)
            · have hf := ifp hf c_6
              refine lv_tableIn (off := 42) (tgt := 43) hx hb dX9_lengthOf_1 (by rw [c_6]; decide) (by rw [c_6]; decide) (by rw [c_6]; decide) (by decide) ?_
              refine lv_bipush (v := (19 : Int32)) hx hb dX9_lengthOf_43 (by decide) ?_
              obtain rfl := Option.some.inj hf
              exact W.iret hx hb hr (fun t ht hW => ⟨⟨(), rfl, by rw [ht]; exact hP, hD⟩, hS.F ht⟩) hS.2.2 dX9_lengthOf_45
            · have hf := ifn hf c_6
              have hneg : p1.toInt < 1 ∨ 6 < p1.toInt := by
                have := lv_neT c_1 (a := 1) (by decide)
                have := lv_neT c_2 (a := 2) (by decide)
                have := lv_neT c_3 (a := 3) (by decide)
                have := lv_neT c_4 (a := 4) (by decide)
                have := lv_neT c_5 (a := 5) (by decide)
                have := lv_neT c_6 (a := 6) (by decide)
                omega
              refine lv_tableOut (tgt := 55) hx hb dX9_lengthOf_1 hneg (by decide) ?_
              refine lv_bipush (v := (16 : Int32)) hx hb dX9_lengthOf_55 (by decide) ?_
              obtain rfl := Option.some.inj hf
              exact W.iret hx hb hr (fun t ht hW => ⟨⟨(), rfl, by rw [ht]; exact hP, hD⟩, hS.F ht⟩) hS.2.2 dX9_lengthOf_57

def fX9_begin (mro : Nat → Int32) (p1 : Int32) : Option (Int32 × (Nat → Int32)) := ((fX9_lengthOf p1).bind fun r_1 => ((fX9_u2 (0 : Int32) mro r_1).bind fun (o_mz_3, o_mro_4) => ((fX9_u1 o_mz_3 o_mro_4 p1).bind fun (o_mz_6, o_mro_7) => some (o_mz_6, o_mro_7))))

set_option maxHeartbeats 4000000 in
set_option maxRecDepth 100000 in
theorem cX9_begin_ok (l : Launch) (D : va_G) (y : Nat → ClassId) (am : Nat) (mo : Nat) (m1 : Nat) (m2 : Nat) (m_p : Nat) (m_w : Nat) (m_l : Nat) (m_v : Nat) (m_r : Nat) (m_q : Nat) (nb : Nat) (th : Int32) (mb : Int32) (us : Int32) (me : Int32) (rc : Int32) (dn : Bool) (lf : Int32) (mw : Int32) (mf : Int32) (ms : Int32) (mu : Int32) (ml : Int64) (mz : Int32) (c1 : Nat → Int32) (c2 : Nat → Int32) (mpa : Nat → Int32) (mwe : Nat → Int32) (mli : Nat → Int32) (mvo : Nat → Int64) (mro : Nat → Int32) (mpl : Nat → Int32) (p1 : Int32) (res : Int32 × (Nat → Int32)) (hf : fX9_begin mro p1 = some res) : CT l D y yX9_begin wsX9_begin ({ frames := 2, cells := 0, slots := 0, locals := 42 } : Room) [.ref am, .int p1] [(am, .inr (8, [.int th, .int mb, .ref mo, .int us, .int me, .int rc, .int (zb dn), .int lf, .int mw, .int mf, .ref m_p, .ref m_w, .ref m_l, .ref m_v, .int ms, .int mu, .long ml, .ref m_r, .int mz, .ref m_q])), (mo, .inl (y 4, 2, .inr (.inr (.inr (.inr (outr m1 m2)))))), (m1, .inl (y 0, nb, .inl c1)), (m2, .inl (y 0, nb, .inl c2)), (m_p, .inl (y 1, 121, .inl mpa)), (m_w, .inl (y 1, 121, .inl mwe)), (m_l, .inl (y 3, 121, .inl mli)), (m_v, .inl (y 2, 121, .inr (.inl mvo))), (m_r, .inl (y 0, 32, .inl mro)), (m_q, .inl (y 1, 260, .inl mpl))] (none) [(am, .inr (8, [.int th, .int mb, .ref mo, .int us, .int me, .int rc, .int (zb dn), .int lf, .int mw, .int mf, .ref m_p, .ref m_w, .ref m_l, .ref m_v, .int ms, .int mu, .long ml, .ref m_r, .int res.1, .ref m_q])), (mo, .inl (y 4, 2, .inr (.inr (.inr (.inr (outr m1 m2)))))), (m1, .inl (y 0, nb, .inl c1)), (m2, .inl (y 0, nb, .inl c2)), (m_p, .inl (y 1, 121, .inl mpa)), (m_w, .inl (y 1, 121, .inl mwe)), (m_l, .inl (y 3, 121, .inl mli)), (m_v, .inl (y 2, 121, .inr (.inl mvo))), (m_r, .inl (y 0, 32, .inl res.2)), (m_q, .inl (y 1, 260, .inl mpl))] := by
  intro sz
  refine Met.ofW (cc := cX9_begin) (maxL := 2) (ret := none) (by decide) rfl ?_
  intro p e s m args below meth c s₁ B hml hv
  obtain ⟨rfl, hsz, hP, hK, hD0, hst, hno⟩ := hv
  have hx := B.exec
  have hb := B.bytes
  have hr := B.returns
  have hts := atoms_spec (ws := wsX9_begin) B.pre
  have hown : s.vm.findClass RX9 = some m.cls := findClass_of_methodNamed B.named
  have hlocks := B.notSynchronized
  subst hsz
  have hD := hD0.self (sz := s.heap.size)
  generalize hAe : va_A [(am, .inr (8, [.int th, .int mb, .ref mo, .int us, .int me, .int rc, .int (zb dn), .int lf, .int mw, .int mf, .ref m_p, .ref m_w, .ref m_l, .ref m_v, .int ms, .int mu, .long ml, .ref m_r, .int mz, .ref m_q])), (mo, .inl (y 4, 2, .inr (.inr (.inr (.inr (outr m1 m2)))))), (m1, .inl (y 0, nb, .inl c1)), (m2, .inl (y 0, nb, .inl c2)), (m_p, .inl (y 1, 121, .inl mpa)), (m_w, .inl (y 1, 121, .inl mwe)), (m_l, .inl (y 3, 121, .inl mli)), (m_v, .inl (y 2, 121, .inr (.inl mvo))), (m_r, .inl (y 0, 32, .inl mro)), (m_q, .inl (y 1, 260, .inl mpl))] s.heap.size = A at hD hst ⊢
  have hA : ∀ q : Nat, s.heap.size ≤ q → A q := fun q h => by rw [← hAe]; exact Or.inr h
  have hS : va_S A s.heap s.heap [] := va_S.rf
  have E : Ev D y A s := ⟨hK, hst, hno, hA⟩
  have hfix : CallFix p m c cX9_begin 2 s _ wsX9_begin RX9 := ⟨hx, hb, hml, hown, hts⟩
  have hP : va_P D vwCl [(am, .inr (8, [.int th, .int mb, .ref mo, .int us, .int me, .int rc, .int (zb dn), .int lf, .int mw, .int mf, .ref m_p, .ref m_w, .ref m_l, .ref m_v, .int ms, .int mu, .long ml, .ref m_r, .int mz, .ref m_q])), (mo, .inl (y 4, 2, .inr (.inr (.inr (.inr (outr m1 m2)))))), (m1, .inl (y 0, nb, .inl c1)), (m2, .inl (y 0, nb, .inl c2)), (m_p, .inl (y 1, 121, .inl mpa)), (m_w, .inl (y 1, 121, .inl mwe)), (m_l, .inl (y 3, 121, .inl mli)), (m_v, .inl (y 2, 121, .inr (.inl mvo))), (m_r, .inl (y 0, 32, .inl mro)), (m_q, .inl (y 1, 260, .inl mpl))] s.heap := hP
  have iX9 : ∀ w ∈ wsX90, w ∈ wsX9_begin := by decide +kernel
  have hl := lv_entry ([.ref am, .int p1]) (n := 2) (Nat.le_of_ble_eq_true rfl)
  rw [lg_entry_eq]
  generalize (lg_sl ([.ref am, .int p1]) ++ List.replicate (2 - (lg_sl ([.ref am, .int p1])).length) Slot.unset).toArray = ls at hl ⊢
  have hl : lv_has ls 2 [(0, .ref am), (1, .int p1)] := hl
  unfold fX9_begin at hf
  refine lv_aload_n hx hb dX9_begin_0 rfl (lv_at hl 0 rfl) ?_
  refine lv_iconst (v := (0 : Int32)) hx hb dX9_begin_1 (by decide) ?_
  refine va_put (D := D) (ci := 8) (v := .int (0 : Int32)) (ty := .int) (C := RX9) (T := TX9) (N := 20) hx hb hts iX9 tyX9 tyX9_ok nmX9 hown hK hP hD hS 0 rfl rfl 18 (by decide) (hts (.fieldLink RX9 43 "SampleTrackerModel" "size" "I") (by decide +kernel)) (fun _ h9 => h9) rfl (by decide +kernel) rfl rfl (Nat.le_of_ble_eq_true rfl) dX9_begin_2 (fun H locs hP hD hS => ?_)
  have hP : va_P D vwCl [(am, .inr (8, [.int th, .int mb, .ref mo, .int us, .int me, .int rc, .int (zb dn), .int lf, .int mw, .int mf, .ref m_p, .ref m_w, .ref m_l, .ref m_v, .int ms, .int mu, .long ml, .ref m_r, .int (0 : Int32), .ref m_q])), (mo, .inl (y 4, 2, .inr (.inr (.inr (.inr (outr m1 m2)))))), (m1, .inl (y 0, nb, .inl c1)), (m2, .inl (y 0, nb, .inl c2)), (m_p, .inl (y 1, 121, .inl mpa)), (m_w, .inl (y 1, 121, .inl mwe)), (m_l, .inl (y 3, 121, .inl mli)), (m_v, .inl (y 2, 121, .inr (.inl mvo))), (m_r, .inl (y 0, 32, .inl mro)), (m_q, .inl (y 1, 260, .inl mpl))] H := hP
  have hD : va_D A [(am, .inr (8, [.int th, .int mb, .ref mo, .int us, .int me, .int rc, .int (zb dn), .int lf, .int mw, .int mf, .ref m_p, .ref m_w, .ref m_l, .ref m_v, .int ms, .int mu, .long ml, .ref m_r, .int (0 : Int32), .ref m_q])), (mo, .inl (y 4, 2, .inr (.inr (.inr (.inr (outr m1 m2)))))), (m1, .inl (y 0, nb, .inl c1)), (m2, .inl (y 0, nb, .inl c2)), (m_p, .inl (y 1, 121, .inl mpa)), (m_w, .inl (y 1, 121, .inl mwe)), (m_l, .inl (y 3, 121, .inl mli)), (m_v, .inl (y 2, 121, .inr (.inl mvo))), (m_r, .inl (y 0, 32, .inl mro)), (m_q, .inl (y 1, 260, .inl mpl))] := hD
  refine lv_aload_n hx hb dX9_begin_5 rfl (lv_at hl 0 rfl) ?_
  refine lv_iload_n hx hb dX9_begin_6 rfl (lv_at hl 1 rfl) ?_
  obtain ⟨r_1, hc_2, hf⟩ := obd hf
  refine ct_S (As := [.int p1]) (rest := [.ref am]) (wr := [(am, .inr (8, [.int th, .int mb, .ref mo, .int us, .int me, .int rc, .int (zb dn), .int lf, .int mw, .int mf, .ref m_p, .ref m_w, .ref m_l, .ref m_v, .int ms, .int mu, .long ml, .ref m_r, .int (0 : Int32), .ref m_q])), (mo, .inl (y 4, 2, .inr (.inr (.inr (.inr (outr m1 m2)))))), (m1, .inl (y 0, nb, .inl c1)), (m2, .inl (y 0, nb, .inl c2)), (m_p, .inl (y 1, 121, .inl mpa)), (m_w, .inl (y 1, 121, .inl mwe)), (m_l, .inl (y 3, 121, .inl mli)), (m_v, .inl (y 2, 121, .inr (.inl mvo))), (m_r, .inl (y 0, 32, .inl mro)), (m_q, .inl (y 1, 260, .inl mpl))]) (wn := [(am, .inr (8, [.int th, .int mb, .ref mo, .int us, .int me, .int rc, .int (zb dn), .int lf, .int mw, .int mf, .ref m_p, .ref m_w, .ref m_l, .ref m_v, .int ms, .int mu, .long ml, .ref m_r, .int (0 : Int32), .ref m_q])), (mo, .inl (y 4, 2, .inr (.inr (.inr (.inr (outr m1 m2)))))), (m1, .inl (y 0, nb, .inl c1)), (m2, .inl (y 0, nb, .inl c2)), (m_p, .inl (y 1, 121, .inl mpa)), (m_w, .inl (y 1, 121, .inl mwe)), (m_l, .inl (y 3, 121, .inl mli)), (m_v, .inl (y 2, 121, .inr (.inl mvo))), (m_r, .inl (y 0, 32, .inl mro)), (m_q, .inl (y 1, 260, .inl mpl))]) hfix (cX9_lengthOf_ok l D y p1 _ hc_2) (va_cwS 1 hts gX9_begin_X9_lengthOf rfl rfl rfl (by decide +kernel) ⟨Nat.le_of_ble_eq_true rfl, Nat.le_of_ble_eq_true rfl⟩) E hP hD hS [] [0, 1, 2, 3, 4, 5, 6, 7, 8, 9] [0, 1, 2, 3, 4, 5, 6, 7, 8, 9] rfl rfl rfl rfl (by decide) rfl rfl rfl hl.1 rfl (Nat.le_of_ble_eq_true rfl) dX9_begin_7 ⟨Nat.zero_le _, Nat.zero_le _⟩ (fun H locs hP hD hS => ?_)
  refine W.eq (g2 := F0 m 10 ls [.int r_1, .ref am]) rfl ?_
  obtain ⟨⟨o_mz_3, o_mro_4⟩, hc_5, hf⟩ := obd hf
  refine ct_V (As := [.int r_1]) (rest := []) (wr := []) (wn := [(am, .inr (8, [.int th, .int mb, .ref mo, .int us, .int me, .int rc, .int (zb dn), .int lf, .int mw, .int mf, .ref m_p, .ref m_w, .ref m_l, .ref m_v, .int ms, .int mu, .long ml, .ref m_r, .int o_mz_3, .ref m_q])), (mo, .inl (y 4, 2, .inr (.inr (.inr (.inr (outr m1 m2)))))), (m1, .inl (y 0, nb, .inl c1)), (m2, .inl (y 0, nb, .inl c2)), (m_p, .inl (y 1, 121, .inl mpa)), (m_w, .inl (y 1, 121, .inl mwe)), (m_l, .inl (y 3, 121, .inl mli)), (m_v, .inl (y 2, 121, .inr (.inl mvo))), (m_r, .inl (y 0, 32, .inl o_mro_4)), (m_q, .inl (y 1, 260, .inl mpl))]) hfix (cX9_u2_ok l D y am mo m1 m2 m_p m_w m_l m_v m_r m_q nb th mb us me rc dn lf mw mf ms mu ml (0 : Int32) c1 c2 mpa mwe mli mvo mro mpl r_1 _ hc_5) (cwV 1 hts gX9_begin_X9_u2 rfl rfl rfl (by decide +kernel) ⟨Nat.le_of_ble_eq_true rfl, Nat.le_of_ble_eq_true rfl⟩) E hP hD hS [0, 1, 2, 3, 4, 5, 6, 7, 8, 9] [] [0, 1, 2, 3, 4, 5, 6, 7, 8, 9] rfl rfl rfl rfl (by decide) rfl rfl 0 8 rfl rfl rfl hl.1 rfl (Nat.le_of_ble_eq_true rfl) dX9_begin_10 ⟨Nat.zero_le _, Nat.zero_le _⟩ (fun H locs hP hD hS => ?_)
  refine W.eq (g2 := F0 m 13 ls []) rfl ?_
  refine lv_aload_n hx hb dX9_begin_13 rfl (lv_at hl 0 rfl) ?_
  refine lv_iload_n hx hb dX9_begin_14 rfl (lv_at hl 1 rfl) ?_
  obtain ⟨⟨o_mz_6, o_mro_7⟩, hc_8, hf⟩ := obd hf
  refine ct_V (As := [.int p1]) (rest := []) (wr := []) (wn := [(am, .inr (8, [.int th, .int mb, .ref mo, .int us, .int me, .int rc, .int (zb dn), .int lf, .int mw, .int mf, .ref m_p, .ref m_w, .ref m_l, .ref m_v, .int ms, .int mu, .long ml, .ref m_r, .int o_mz_6, .ref m_q])), (mo, .inl (y 4, 2, .inr (.inr (.inr (.inr (outr m1 m2)))))), (m1, .inl (y 0, nb, .inl c1)), (m2, .inl (y 0, nb, .inl c2)), (m_p, .inl (y 1, 121, .inl mpa)), (m_w, .inl (y 1, 121, .inl mwe)), (m_l, .inl (y 3, 121, .inl mli)), (m_v, .inl (y 2, 121, .inr (.inl mvo))), (m_r, .inl (y 0, 32, .inl o_mro_7)), (m_q, .inl (y 1, 260, .inl mpl))]) hfix (cX9_u1_ok l D y am mo m1 m2 m_p m_w m_l m_v m_r m_q nb th mb us me rc dn lf mw mf ms mu ml o_mz_3 c1 c2 mpa mwe mli mvo o_mro_4 mpl p1 _ hc_8) (cwV 1 hts gX9_begin_X9_u1 rfl rfl rfl (by decide +kernel) ⟨Nat.le_of_ble_eq_true rfl, Nat.le_of_ble_eq_true rfl⟩) E hP hD hS [0, 1, 2, 3, 4, 5, 6, 7, 8, 9] [] [0, 1, 2, 3, 4, 5, 6, 7, 8, 9] rfl rfl rfl rfl (by decide) rfl rfl 0 8 rfl rfl rfl hl.1 rfl (Nat.le_of_ble_eq_true rfl) dX9_begin_15 ⟨Nat.zero_le _, Nat.zero_le _⟩ (fun H locs hP hD hS => ?_)
  refine W.eq (g2 := F0 m 18 ls []) rfl ?_
  obtain rfl := Option.some.inj hf
  exact W.vret hx hb hr (fun t ht hW => ⟨⟨(), rfl, by rw [ht]; exact hP, hD⟩, hS.F ht⟩) hS.2.2 dX9_begin_18

def fX9_checked (mz : Int32) (mro : Nat → Int32) : Option (Int32 × (Nat → Int32)) := ((fX9_crc 32 mro (0 : Int32) mz).bind fun r_1 => ((fX9_u4 mz mro r_1).bind fun (o_mz_3, o_mro_4) => ((fX9_u1 o_mz_3 o_mro_4 (165 : Int32)).bind fun (o_mz_6, o_mro_7) => some (o_mz_6, o_mro_7))))

set_option maxHeartbeats 4000000 in
set_option maxRecDepth 100000 in
theorem cX9_checked_ok (l : Launch) (D : va_G) (y : Nat → ClassId) (am : Nat) (mo : Nat) (m1 : Nat) (m2 : Nat) (m_p : Nat) (m_w : Nat) (m_l : Nat) (m_v : Nat) (m_r : Nat) (m_q : Nat) (nb : Nat) (th : Int32) (mb : Int32) (us : Int32) (me : Int32) (rc : Int32) (dn : Bool) (lf : Int32) (mw : Int32) (mf : Int32) (ms : Int32) (mu : Int32) (ml : Int64) (mz : Int32) (c1 : Nat → Int32) (c2 : Nat → Int32) (mpa : Nat → Int32) (mwe : Nat → Int32) (mli : Nat → Int32) (mvo : Nat → Int64) (mro : Nat → Int32) (mpl : Nat → Int32) (res : Int32 × (Nat → Int32)) (hf : fX9_checked mz mro = some res) : CT l D y yX9_checked wsX9_checked ({ frames := 3, cells := 0, slots := 0, locals := 63 } : Room) [.ref am] [(am, .inr (8, [.int th, .int mb, .ref mo, .int us, .int me, .int rc, .int (zb dn), .int lf, .int mw, .int mf, .ref m_p, .ref m_w, .ref m_l, .ref m_v, .int ms, .int mu, .long ml, .ref m_r, .int mz, .ref m_q])), (mo, .inl (y 4, 2, .inr (.inr (.inr (.inr (outr m1 m2)))))), (m1, .inl (y 0, nb, .inl c1)), (m2, .inl (y 0, nb, .inl c2)), (m_p, .inl (y 1, 121, .inl mpa)), (m_w, .inl (y 1, 121, .inl mwe)), (m_l, .inl (y 3, 121, .inl mli)), (m_v, .inl (y 2, 121, .inr (.inl mvo))), (m_r, .inl (y 0, 32, .inl mro)), (m_q, .inl (y 1, 260, .inl mpl))] (none) [(am, .inr (8, [.int th, .int mb, .ref mo, .int us, .int me, .int rc, .int (zb dn), .int lf, .int mw, .int mf, .ref m_p, .ref m_w, .ref m_l, .ref m_v, .int ms, .int mu, .long ml, .ref m_r, .int res.1, .ref m_q])), (mo, .inl (y 4, 2, .inr (.inr (.inr (.inr (outr m1 m2)))))), (m1, .inl (y 0, nb, .inl c1)), (m2, .inl (y 0, nb, .inl c2)), (m_p, .inl (y 1, 121, .inl mpa)), (m_w, .inl (y 1, 121, .inl mwe)), (m_l, .inl (y 3, 121, .inl mli)), (m_v, .inl (y 2, 121, .inr (.inl mvo))), (m_r, .inl (y 0, 32, .inl res.2)), (m_q, .inl (y 1, 260, .inl mpl))] := by
  intro sz
  refine Met.ofW (cc := cX9_checked) (maxL := 1) (ret := none) (by decide) rfl ?_
  intro p e s m args below meth c s₁ B hml hv
  obtain ⟨rfl, hsz, hP, hK, hD0, hst, hno⟩ := hv
  have hx := B.exec
  have hb := B.bytes
  have hr := B.returns
  have hts := atoms_spec (ws := wsX9_checked) B.pre
  have hown : s.vm.findClass RX9 = some m.cls := findClass_of_methodNamed B.named
  have hlocks := B.notSynchronized
  subst hsz
  have hD := hD0.self (sz := s.heap.size)
  generalize hAe : va_A [(am, .inr (8, [.int th, .int mb, .ref mo, .int us, .int me, .int rc, .int (zb dn), .int lf, .int mw, .int mf, .ref m_p, .ref m_w, .ref m_l, .ref m_v, .int ms, .int mu, .long ml, .ref m_r, .int mz, .ref m_q])), (mo, .inl (y 4, 2, .inr (.inr (.inr (.inr (outr m1 m2)))))), (m1, .inl (y 0, nb, .inl c1)), (m2, .inl (y 0, nb, .inl c2)), (m_p, .inl (y 1, 121, .inl mpa)), (m_w, .inl (y 1, 121, .inl mwe)), (m_l, .inl (y 3, 121, .inl mli)), (m_v, .inl (y 2, 121, .inr (.inl mvo))), (m_r, .inl (y 0, 32, .inl mro)), (m_q, .inl (y 1, 260, .inl mpl))] s.heap.size = A at hD hst ⊢
  have hA : ∀ q : Nat, s.heap.size ≤ q → A q := fun q h => by rw [← hAe]; exact Or.inr h
  have hS : va_S A s.heap s.heap [] := va_S.rf
  have E : Ev D y A s := ⟨hK, hst, hno, hA⟩
  have hfix : CallFix p m c cX9_checked 1 s _ wsX9_checked RX9 := ⟨hx, hb, hml, hown, hts⟩
  have hP : va_P D vwCl [(am, .inr (8, [.int th, .int mb, .ref mo, .int us, .int me, .int rc, .int (zb dn), .int lf, .int mw, .int mf, .ref m_p, .ref m_w, .ref m_l, .ref m_v, .int ms, .int mu, .long ml, .ref m_r, .int mz, .ref m_q])), (mo, .inl (y 4, 2, .inr (.inr (.inr (.inr (outr m1 m2)))))), (m1, .inl (y 0, nb, .inl c1)), (m2, .inl (y 0, nb, .inl c2)), (m_p, .inl (y 1, 121, .inl mpa)), (m_w, .inl (y 1, 121, .inl mwe)), (m_l, .inl (y 3, 121, .inl mli)), (m_v, .inl (y 2, 121, .inr (.inl mvo))), (m_r, .inl (y 0, 32, .inl mro)), (m_q, .inl (y 1, 260, .inl mpl))] s.heap := hP
  have iX9 : ∀ w ∈ wsX90, w ∈ wsX9_checked := by decide +kernel
  have hl := lv_entry ([.ref am]) (n := 1) (Nat.le_of_ble_eq_true rfl)
  rw [lg_entry_eq]
  generalize (lg_sl ([.ref am]) ++ List.replicate (1 - (lg_sl ([.ref am])).length) Slot.unset).toArray = ls at hl ⊢
  have hl : lv_has ls 1 [(0, .ref am)] := hl
  unfold fX9_checked at hf
  refine lv_aload_n hx hb dX9_checked_0 rfl (lv_at hl 0 rfl) ?_
  refine lv_aload_n hx hb dX9_checked_1 rfl (lv_at hl 0 rfl) ?_
  refine va_get (D := D) (ci := 8) (v := .ref m_r) (C := RX9) (T := TX9) (N := 20) hx hb hts iX9 hown hK hP 0 rfl rfl 17 (by decide) (hts (.fieldLink RX9 28 "SampleTrackerModel" "row" "[B") (by decide +kernel)) (fun _ h9 => h9) rfl dX9_checked_2 ?_
  refine lv_iconst (v := (0 : Int32)) hx hb dX9_checked_5 (by decide) ?_
  refine lv_aload_n hx hb dX9_checked_6 rfl (lv_at hl 0 rfl) ?_
  refine va_get (D := D) (ci := 8) (v := .int mz) (C := RX9) (T := TX9) (N := 20) hx hb hts iX9 hown hK hP 0 rfl rfl 18 (by decide) (hts (.fieldLink RX9 43 "SampleTrackerModel" "size" "I") (by decide +kernel)) (fun _ h9 => h9) rfl dX9_checked_7 ?_
  obtain ⟨r_1, hc_2, hf⟩ := obd hf
  refine ct_S (As := [.ref m_r, .int (0 : Int32), .int mz]) (rest := [.ref am]) (wr := [(am, .inr (8, [.int th, .int mb, .ref mo, .int us, .int me, .int rc, .int (zb dn), .int lf, .int mw, .int mf, .ref m_p, .ref m_w, .ref m_l, .ref m_v, .int ms, .int mu, .long ml, .ref m_r, .int mz, .ref m_q])), (mo, .inl (y 4, 2, .inr (.inr (.inr (.inr (outr m1 m2)))))), (m1, .inl (y 0, nb, .inl c1)), (m2, .inl (y 0, nb, .inl c2)), (m_p, .inl (y 1, 121, .inl mpa)), (m_w, .inl (y 1, 121, .inl mwe)), (m_l, .inl (y 3, 121, .inl mli)), (m_v, .inl (y 2, 121, .inr (.inl mvo))), (m_q, .inl (y 1, 260, .inl mpl))]) (wn := [(am, .inr (8, [.int th, .int mb, .ref mo, .int us, .int me, .int rc, .int (zb dn), .int lf, .int mw, .int mf, .ref m_p, .ref m_w, .ref m_l, .ref m_v, .int ms, .int mu, .long ml, .ref m_r, .int mz, .ref m_q])), (mo, .inl (y 4, 2, .inr (.inr (.inr (.inr (outr m1 m2)))))), (m1, .inl (y 0, nb, .inl c1)), (m2, .inl (y 0, nb, .inl c2)), (m_p, .inl (y 1, 121, .inl mpa)), (m_w, .inl (y 1, 121, .inl mwe)), (m_l, .inl (y 3, 121, .inl mli)), (m_v, .inl (y 2, 121, .inr (.inl mvo))), (m_r, .inl (y 0, 32, .inl mro)), (m_q, .inl (y 1, 260, .inl mpl))]) hfix (cX9_crc_ok l D y m_r 32 mro (0 : Int32) mz _ hc_2) (va_cwS 3 hts gX9_checked_X9_crc rfl rfl rfl (by decide +kernel) ⟨Nat.le_of_ble_eq_true rfl, Nat.le_of_ble_eq_true rfl⟩) E hP hD hS [8] [0, 1, 2, 3, 4, 5, 6, 7, 9] [0, 1, 2, 3, 4, 5, 6, 7, 9, 8] rfl rfl rfl rfl (by decide) rfl rfl rfl hl.1 rfl (Nat.le_of_ble_eq_true rfl) dX9_checked_10 ⟨Nat.zero_le _, Nat.zero_le _⟩ (fun H locs hP hD hS => ?_)
  refine W.eq (g2 := F0 m 13 ls [.int r_1, .ref am]) rfl ?_
  obtain ⟨⟨o_mz_3, o_mro_4⟩, hc_5, hf⟩ := obd hf
  refine ct_V (As := [.int r_1]) (rest := []) (wr := []) (wn := [(am, .inr (8, [.int th, .int mb, .ref mo, .int us, .int me, .int rc, .int (zb dn), .int lf, .int mw, .int mf, .ref m_p, .ref m_w, .ref m_l, .ref m_v, .int ms, .int mu, .long ml, .ref m_r, .int o_mz_3, .ref m_q])), (mo, .inl (y 4, 2, .inr (.inr (.inr (.inr (outr m1 m2)))))), (m1, .inl (y 0, nb, .inl c1)), (m2, .inl (y 0, nb, .inl c2)), (m_p, .inl (y 1, 121, .inl mpa)), (m_w, .inl (y 1, 121, .inl mwe)), (m_l, .inl (y 3, 121, .inl mli)), (m_v, .inl (y 2, 121, .inr (.inl mvo))), (m_r, .inl (y 0, 32, .inl o_mro_4)), (m_q, .inl (y 1, 260, .inl mpl))]) hfix (cX9_u4_ok l D y am mo m1 m2 m_p m_w m_l m_v m_r m_q nb th mb us me rc dn lf mw mf ms mu ml mz c1 c2 mpa mwe mli mvo mro mpl r_1 _ hc_5) (cwV 1 hts gX9_checked_X9_u4 rfl rfl rfl (by decide +kernel) ⟨Nat.le_of_ble_eq_true rfl, Nat.le_of_ble_eq_true rfl⟩) E hP hD hS [0, 1, 2, 3, 4, 5, 6, 7, 8, 9] [] [0, 1, 2, 3, 4, 5, 6, 7, 8, 9] rfl rfl rfl rfl (by decide) rfl rfl 0 8 rfl rfl rfl hl.1 rfl (Nat.le_of_ble_eq_true rfl) dX9_checked_13 ⟨Nat.zero_le _, Nat.zero_le _⟩ (fun H locs hP hD hS => ?_)
  refine W.eq (g2 := F0 m 16 ls []) rfl ?_
  refine lv_aload_n hx hb dX9_checked_16 rfl (lv_at hl 0 rfl) ?_
  refine lv_sipush (v := (165 : Int32)) hx hb dX9_checked_17 (by decide) ?_
  obtain ⟨⟨o_mz_6, o_mro_7⟩, hc_8, hf⟩ := obd hf
  refine ct_V (As := [.int (165 : Int32)]) (rest := []) (wr := []) (wn := [(am, .inr (8, [.int th, .int mb, .ref mo, .int us, .int me, .int rc, .int (zb dn), .int lf, .int mw, .int mf, .ref m_p, .ref m_w, .ref m_l, .ref m_v, .int ms, .int mu, .long ml, .ref m_r, .int o_mz_6, .ref m_q])), (mo, .inl (y 4, 2, .inr (.inr (.inr (.inr (outr m1 m2)))))), (m1, .inl (y 0, nb, .inl c1)), (m2, .inl (y 0, nb, .inl c2)), (m_p, .inl (y 1, 121, .inl mpa)), (m_w, .inl (y 1, 121, .inl mwe)), (m_l, .inl (y 3, 121, .inl mli)), (m_v, .inl (y 2, 121, .inr (.inl mvo))), (m_r, .inl (y 0, 32, .inl o_mro_7)), (m_q, .inl (y 1, 260, .inl mpl))]) hfix (cX9_u1_ok l D y am mo m1 m2 m_p m_w m_l m_v m_r m_q nb th mb us me rc dn lf mw mf ms mu ml o_mz_3 c1 c2 mpa mwe mli mvo o_mro_4 mpl (165 : Int32) _ hc_8) (cwV 1 hts gX9_checked_X9_u1 rfl rfl rfl (by decide +kernel) ⟨Nat.le_of_ble_eq_true rfl, Nat.le_of_ble_eq_true rfl⟩) E hP hD hS [0, 1, 2, 3, 4, 5, 6, 7, 8, 9] [] [0, 1, 2, 3, 4, 5, 6, 7, 8, 9] rfl rfl rfl rfl (by decide) rfl rfl 0 8 rfl rfl rfl hl.1 rfl (Nat.le_of_ble_eq_true rfl) dX9_checked_20 ⟨Nat.zero_le _, Nat.zero_le _⟩ (fun H locs hP hD hS => ?_)
  refine W.eq (g2 := F0 m 23 ls []) rfl ?_
  obtain rfl := Option.some.inj hf
  exact W.vret hx hb hr (fun t ht hW => ⟨⟨(), rfl, by rw [ht]; exact hP, hD⟩, hS.F ht⟩) hS.2.2 dX9_checked_23

set_option maxHeartbeats 4000000 in
set_option maxRecDepth 100000 in
theorem cX9_fails_ok (l : Launch) (D : va_G) (y : Nat → ClassId) (am : Nat) (mo : Nat) (m1 : Nat) (m2 : Nat) (m_p : Nat) (m_w : Nat) (m_l : Nat) (m_v : Nat) (m_r : Nat) (m_q : Nat) (nb : Nat) (th : Int32) (mb : Int32) (us : Int32) (me : Int32) (rc : Int32) (dn : Bool) (lf : Int32) (mw : Int32) (mf : Int32) (ms : Int32) (mu : Int32) (ml : Int64) (mz : Int32) (c1 : Nat → Int32) (c2 : Nat → Int32) (mpa : Nat → Int32) (mwe : Nat → Int32) (mli : Nat → Int32) (mvo : Nat → Int64) (mro : Nat → Int32) (mpl : Nat → Int32) : CT l D y yX9_fails wsX9_fails ({ frames := 0, cells := 0, slots := 0, locals := 0 } : Room) [.ref am] [(am, .inr (8, [.int th, .int mb, .ref mo, .int us, .int me, .int rc, .int (zb dn), .int lf, .int mw, .int mf, .ref m_p, .ref m_w, .ref m_l, .ref m_v, .int ms, .int mu, .long ml, .ref m_r, .int mz, .ref m_q])), (mo, .inl (y 4, 2, .inr (.inr (.inr (.inr (outr m1 m2)))))), (m1, .inl (y 0, nb, .inl c1)), (m2, .inl (y 0, nb, .inl c2)), (m_p, .inl (y 1, 121, .inl mpa)), (m_w, .inl (y 1, 121, .inl mwe)), (m_l, .inl (y 3, 121, .inl mli)), (m_v, .inl (y 2, 121, .inr (.inl mvo))), (m_r, .inl (y 0, 32, .inl mro)), (m_q, .inl (y 1, 260, .inl mpl))] (none) [(am, .inr (8, [.int th, .int mb, .ref mo, .int us, .int me, .int rc, .int (zb true), .int (-1 : Int32), .int mw, .int (mf + (1 : Int32)), .ref m_p, .ref m_w, .ref m_l, .ref m_v, .int ms, .int mu, .long ml, .ref m_r, .int mz, .ref m_q])), (mo, .inl (y 4, 2, .inr (.inr (.inr (.inr (outr m1 m2)))))), (m1, .inl (y 0, nb, .inl c1)), (m2, .inl (y 0, nb, .inl c2)), (m_p, .inl (y 1, 121, .inl mpa)), (m_w, .inl (y 1, 121, .inl mwe)), (m_l, .inl (y 3, 121, .inl mli)), (m_v, .inl (y 2, 121, .inr (.inl mvo))), (m_r, .inl (y 0, 32, .inl mro)), (m_q, .inl (y 1, 260, .inl mpl))] := by
  intro sz
  refine Met.ofW (cc := cX9_fails) (maxL := 1) (ret := none) (by decide) rfl ?_
  intro p e s m args below meth c s₁ B hml hv
  obtain ⟨rfl, hsz, hP, hK, hD0, hst, hno⟩ := hv
  have hx := B.exec
  have hb := B.bytes
  have hr := B.returns
  have hts := atoms_spec (ws := wsX9_fails) B.pre
  have hown : s.vm.findClass RX9 = some m.cls := findClass_of_methodNamed B.named
  have hlocks := B.notSynchronized
  subst hsz
  have hD := hD0.self (sz := s.heap.size)
  generalize hAe : va_A [(am, .inr (8, [.int th, .int mb, .ref mo, .int us, .int me, .int rc, .int (zb dn), .int lf, .int mw, .int mf, .ref m_p, .ref m_w, .ref m_l, .ref m_v, .int ms, .int mu, .long ml, .ref m_r, .int mz, .ref m_q])), (mo, .inl (y 4, 2, .inr (.inr (.inr (.inr (outr m1 m2)))))), (m1, .inl (y 0, nb, .inl c1)), (m2, .inl (y 0, nb, .inl c2)), (m_p, .inl (y 1, 121, .inl mpa)), (m_w, .inl (y 1, 121, .inl mwe)), (m_l, .inl (y 3, 121, .inl mli)), (m_v, .inl (y 2, 121, .inr (.inl mvo))), (m_r, .inl (y 0, 32, .inl mro)), (m_q, .inl (y 1, 260, .inl mpl))] s.heap.size = A at hD hst ⊢
  have hA : ∀ q : Nat, s.heap.size ≤ q → A q := fun q h => by rw [← hAe]; exact Or.inr h
  have hS : va_S A s.heap s.heap [] := va_S.rf
  have E : Ev D y A s := ⟨hK, hst, hno, hA⟩
  have hfix : CallFix p m c cX9_fails 1 s _ wsX9_fails RX9 := ⟨hx, hb, hml, hown, hts⟩
  have hP : va_P D vwCl [(am, .inr (8, [.int th, .int mb, .ref mo, .int us, .int me, .int rc, .int (zb dn), .int lf, .int mw, .int mf, .ref m_p, .ref m_w, .ref m_l, .ref m_v, .int ms, .int mu, .long ml, .ref m_r, .int mz, .ref m_q])), (mo, .inl (y 4, 2, .inr (.inr (.inr (.inr (outr m1 m2)))))), (m1, .inl (y 0, nb, .inl c1)), (m2, .inl (y 0, nb, .inl c2)), (m_p, .inl (y 1, 121, .inl mpa)), (m_w, .inl (y 1, 121, .inl mwe)), (m_l, .inl (y 3, 121, .inl mli)), (m_v, .inl (y 2, 121, .inr (.inl mvo))), (m_r, .inl (y 0, 32, .inl mro)), (m_q, .inl (y 1, 260, .inl mpl))] s.heap := hP
  have iX9 : ∀ w ∈ wsX90, w ∈ wsX9_fails := by decide +kernel
  have hl := lv_entry ([.ref am]) (n := 1) (Nat.le_of_ble_eq_true rfl)
  rw [lg_entry_eq]
  generalize (lg_sl ([.ref am]) ++ List.replicate (1 - (lg_sl ([.ref am])).length) Slot.unset).toArray = ls at hl ⊢
  have hl : lv_has ls 1 [(0, .ref am)] := hl
  refine lv_aload_n hx hb dX9_fails_0 rfl (lv_at hl 0 rfl) ?_
  refine lv_iconst (v := (1 : Int32)) hx hb dX9_fails_1 (by decide) ?_
  refine va_put (D := D) (ci := 8) (v := .int (1 : Int32)) (ty := .boolean) (C := RX9) (T := TX9) (N := 20) hx hb hts iX9 tyX9 tyX9_ok nmX9 hown hK hP hD hS 0 rfl rfl 6 (by decide) (hts (.fieldLink RX9 77 "SampleTrackerModel" "isDown" "Z") (by decide +kernel)) (fun _ h9 => h9) rfl (by decide +kernel) rfl rfl (Nat.le_of_ble_eq_true rfl) dX9_fails_2 (fun H locs hP hD hS => ?_)
  have hP : va_P D vwCl [(am, .inr (8, [.int th, .int mb, .ref mo, .int us, .int me, .int rc, .int (zb true), .int lf, .int mw, .int mf, .ref m_p, .ref m_w, .ref m_l, .ref m_v, .int ms, .int mu, .long ml, .ref m_r, .int mz, .ref m_q])), (mo, .inl (y 4, 2, .inr (.inr (.inr (.inr (outr m1 m2)))))), (m1, .inl (y 0, nb, .inl c1)), (m2, .inl (y 0, nb, .inl c2)), (m_p, .inl (y 1, 121, .inl mpa)), (m_w, .inl (y 1, 121, .inl mwe)), (m_l, .inl (y 3, 121, .inl mli)), (m_v, .inl (y 2, 121, .inr (.inl mvo))), (m_r, .inl (y 0, 32, .inl mro)), (m_q, .inl (y 1, 260, .inl mpl))] H := hP
  have hD : va_D A [(am, .inr (8, [.int th, .int mb, .ref mo, .int us, .int me, .int rc, .int (zb true), .int lf, .int mw, .int mf, .ref m_p, .ref m_w, .ref m_l, .ref m_v, .int ms, .int mu, .long ml, .ref m_r, .int mz, .ref m_q])), (mo, .inl (y 4, 2, .inr (.inr (.inr (.inr (outr m1 m2)))))), (m1, .inl (y 0, nb, .inl c1)), (m2, .inl (y 0, nb, .inl c2)), (m_p, .inl (y 1, 121, .inl mpa)), (m_w, .inl (y 1, 121, .inl mwe)), (m_l, .inl (y 3, 121, .inl mli)), (m_v, .inl (y 2, 121, .inr (.inl mvo))), (m_r, .inl (y 0, 32, .inl mro)), (m_q, .inl (y 1, 260, .inl mpl))] := hD
  refine lv_aload_n hx hb dX9_fails_5 rfl (lv_at hl 0 rfl) ?_
  refine lv_dup hx hb dX9_fails_6 rfl ?_
  refine va_get (D := D) (ci := 8) (v := .int mf) (C := RX9) (T := TX9) (N := 20) hx hb hts iX9 hown hK hP 0 rfl rfl 9 (by decide) (hts (.fieldLink RX9 81 "SampleTrackerModel" "failures" "I") (by decide +kernel)) (fun _ h9 => h9) rfl dX9_fails_7 ?_
  refine lv_iconst (v := (1 : Int32)) hx hb dX9_fails_10 (by decide) ?_
  refine lv_iadd hx hb dX9_fails_11 ?_
  refine va_put (D := D) (ci := 8) (v := .int (mf + (1 : Int32))) (ty := .int) (C := RX9) (T := TX9) (N := 20) hx hb hts iX9 tyX9 tyX9_ok nmX9 hown hK hP hD hS 0 rfl rfl 9 (by decide) (hts (.fieldLink RX9 81 "SampleTrackerModel" "failures" "I") (by decide +kernel)) (fun _ h9 => h9) rfl (by decide +kernel) rfl rfl (Nat.le_of_ble_eq_true rfl) dX9_fails_12 (fun H locs hP hD hS => ?_)
  have hP : va_P D vwCl [(am, .inr (8, [.int th, .int mb, .ref mo, .int us, .int me, .int rc, .int (zb true), .int lf, .int mw, .int (mf + (1 : Int32)), .ref m_p, .ref m_w, .ref m_l, .ref m_v, .int ms, .int mu, .long ml, .ref m_r, .int mz, .ref m_q])), (mo, .inl (y 4, 2, .inr (.inr (.inr (.inr (outr m1 m2)))))), (m1, .inl (y 0, nb, .inl c1)), (m2, .inl (y 0, nb, .inl c2)), (m_p, .inl (y 1, 121, .inl mpa)), (m_w, .inl (y 1, 121, .inl mwe)), (m_l, .inl (y 3, 121, .inl mli)), (m_v, .inl (y 2, 121, .inr (.inl mvo))), (m_r, .inl (y 0, 32, .inl mro)), (m_q, .inl (y 1, 260, .inl mpl))] H := hP
  have hD : va_D A [(am, .inr (8, [.int th, .int mb, .ref mo, .int us, .int me, .int rc, .int (zb true), .int lf, .int mw, .int (mf + (1 : Int32)), .ref m_p, .ref m_w, .ref m_l, .ref m_v, .int ms, .int mu, .long ml, .ref m_r, .int mz, .ref m_q])), (mo, .inl (y 4, 2, .inr (.inr (.inr (.inr (outr m1 m2)))))), (m1, .inl (y 0, nb, .inl c1)), (m2, .inl (y 0, nb, .inl c2)), (m_p, .inl (y 1, 121, .inl mpa)), (m_w, .inl (y 1, 121, .inl mwe)), (m_l, .inl (y 3, 121, .inl mli)), (m_v, .inl (y 2, 121, .inr (.inl mvo))), (m_r, .inl (y 0, 32, .inl mro)), (m_q, .inl (y 1, 260, .inl mpl))] := hD
  refine lv_aload_n hx hb dX9_fails_15 rfl (lv_at hl 0 rfl) ?_
  refine lv_iconst (v := (-1 : Int32)) hx hb dX9_fails_16 (by decide) ?_
  refine va_put (D := D) (ci := 8) (v := .int (-1 : Int32)) (ty := .int) (C := RX9) (T := TX9) (N := 20) hx hb hts iX9 tyX9 tyX9_ok nmX9 hown hK hP hD hS 0 rfl rfl 7 (by decide) (hts (.fieldLink RX9 9 "SampleTrackerModel" "left" "I") (by decide +kernel)) (fun _ h9 => h9) rfl (by decide +kernel) rfl rfl (Nat.le_of_ble_eq_true rfl) dX9_fails_17 (fun H locs hP hD hS => ?_)
  have hP : va_P D vwCl [(am, .inr (8, [.int th, .int mb, .ref mo, .int us, .int me, .int rc, .int (zb true), .int (-1 : Int32), .int mw, .int (mf + (1 : Int32)), .ref m_p, .ref m_w, .ref m_l, .ref m_v, .int ms, .int mu, .long ml, .ref m_r, .int mz, .ref m_q])), (mo, .inl (y 4, 2, .inr (.inr (.inr (.inr (outr m1 m2)))))), (m1, .inl (y 0, nb, .inl c1)), (m2, .inl (y 0, nb, .inl c2)), (m_p, .inl (y 1, 121, .inl mpa)), (m_w, .inl (y 1, 121, .inl mwe)), (m_l, .inl (y 3, 121, .inl mli)), (m_v, .inl (y 2, 121, .inr (.inl mvo))), (m_r, .inl (y 0, 32, .inl mro)), (m_q, .inl (y 1, 260, .inl mpl))] H := hP
  have hD : va_D A [(am, .inr (8, [.int th, .int mb, .ref mo, .int us, .int me, .int rc, .int (zb true), .int (-1 : Int32), .int mw, .int (mf + (1 : Int32)), .ref m_p, .ref m_w, .ref m_l, .ref m_v, .int ms, .int mu, .long ml, .ref m_r, .int mz, .ref m_q])), (mo, .inl (y 4, 2, .inr (.inr (.inr (.inr (outr m1 m2)))))), (m1, .inl (y 0, nb, .inl c1)), (m2, .inl (y 0, nb, .inl c2)), (m_p, .inl (y 1, 121, .inl mpa)), (m_w, .inl (y 1, 121, .inl mwe)), (m_l, .inl (y 3, 121, .inl mli)), (m_v, .inl (y 2, 121, .inr (.inl mvo))), (m_r, .inl (y 0, 32, .inl mro)), (m_q, .inl (y 1, 260, .inl mpl))] := hD
  exact W.vret hx hb hr (fun t ht hW => ⟨⟨(), rfl, by rw [ht]; exact hP, hD⟩, hS.F ht⟩) hS.2.2 dX9_fails_20

def fX9_write (nb : Nat) (dn : Bool) (lf : Int32) (mw : Int32) (mf : Int32) (c1 : Nat → Int32) (c2 : Nat → Int32) (p1 : Int32) (p2 : Int32) (p3 : Int32) : Option (Bool × Bool × Int32 × Int32 × Int32 × (Nat → Int32) × (Nat → Int32)) := (if lf = 0 then some (false, true, (-1 : Int32), mw, (mf + (1 : Int32)), c1, c2) else (if p1 = 0 then (if (ib p2 nb) = true then (if lf ≤ 0 then some (true, dn, lf, (mw + (1 : Int32)), mf, (upd c1 p2.toNatClampNeg (vp_nar .byte p3)), c2) else (if (lf - (1 : Int32)) = 0 then some (false, true, (-1 : Int32), (mw + (1 : Int32)), (mf + (1 : Int32)), (upd c1 p2.toNatClampNeg (vp_nar .byte p3)), c2) else some (true, dn, (lf - (1 : Int32)), (mw + (1 : Int32)), mf, (upd c1 p2.toNatClampNeg (vp_nar .byte p3)), c2))) else none) else if p1 = 1 then (if (ib p2 nb) = true then (if lf ≤ 0 then some (true, dn, lf, (mw + (1 : Int32)), mf, c1, (upd c2 p2.toNatClampNeg (vp_nar .byte p3))) else (if (lf - (1 : Int32)) = 0 then some (false, true, (-1 : Int32), (mw + (1 : Int32)), (mf + (1 : Int32)), c1, (upd c2 p2.toNatClampNeg (vp_nar .byte p3))) else some (true, dn, (lf - (1 : Int32)), (mw + (1 : Int32)), mf, c1, (upd c2 p2.toNatClampNeg (vp_nar .byte p3))))) else none) else none))

set_option maxHeartbeats 4000000 in
set_option maxRecDepth 100000 in
theorem cX9_write_ok (l : Launch) (D : va_G) (y : Nat → ClassId) (am : Nat) (mo : Nat) (m1 : Nat) (m2 : Nat) (m_p : Nat) (m_w : Nat) (m_l : Nat) (m_v : Nat) (m_r : Nat) (m_q : Nat) (nb : Nat) (th : Int32) (mb : Int32) (us : Int32) (me : Int32) (rc : Int32) (dn : Bool) (lf : Int32) (mw : Int32) (mf : Int32) (ms : Int32) (mu : Int32) (ml : Int64) (mz : Int32) (c1 : Nat → Int32) (c2 : Nat → Int32) (mpa : Nat → Int32) (mwe : Nat → Int32) (mli : Nat → Int32) (mvo : Nat → Int64) (mro : Nat → Int32) (mpl : Nat → Int32) (p1 : Int32) (p2 : Int32) (p3 : Int32) (res : Bool × Bool × Int32 × Int32 × Int32 × (Nat → Int32) × (Nat → Int32)) (hf : fX9_write nb dn lf mw mf c1 c2 p1 p2 p3 = some res) : CT l D y yX9_write wsX9_write ({ frames := 1, cells := 0, slots := 0, locals := 20 } : Room) [.ref am, .int p1, .int p2, .int p3] [(am, .inr (8, [.int th, .int mb, .ref mo, .int us, .int me, .int rc, .int (zb dn), .int lf, .int mw, .int mf, .ref m_p, .ref m_w, .ref m_l, .ref m_v, .int ms, .int mu, .long ml, .ref m_r, .int mz, .ref m_q])), (mo, .inl (y 4, 2, .inr (.inr (.inr (.inr (outr m1 m2)))))), (m1, .inl (y 0, nb, .inl c1)), (m2, .inl (y 0, nb, .inl c2)), (m_p, .inl (y 1, 121, .inl mpa)), (m_w, .inl (y 1, 121, .inl mwe)), (m_l, .inl (y 3, 121, .inl mli)), (m_v, .inl (y 2, 121, .inr (.inl mvo))), (m_r, .inl (y 0, 32, .inl mro)), (m_q, .inl (y 1, 260, .inl mpl))] (some (.int (zb res.1))) [(am, .inr (8, [.int th, .int mb, .ref mo, .int us, .int me, .int rc, .int (zb res.2.1), .int res.2.2.1, .int res.2.2.2.1, .int res.2.2.2.2.1, .ref m_p, .ref m_w, .ref m_l, .ref m_v, .int ms, .int mu, .long ml, .ref m_r, .int mz, .ref m_q])), (mo, .inl (y 4, 2, .inr (.inr (.inr (.inr (outr m1 m2)))))), (m1, .inl (y 0, nb, .inl res.2.2.2.2.2.1)), (m2, .inl (y 0, nb, .inl res.2.2.2.2.2.2)), (m_p, .inl (y 1, 121, .inl mpa)), (m_w, .inl (y 1, 121, .inl mwe)), (m_l, .inl (y 3, 121, .inl mli)), (m_v, .inl (y 2, 121, .inr (.inl mvo))), (m_r, .inl (y 0, 32, .inl mro)), (m_q, .inl (y 1, 260, .inl mpl))] := by
  intro sz
  refine Met.ofW (cc := cX9_write) (maxL := 4) (ret := (some .boolean)) (by decide) rfl ?_
  intro p e s m args below meth c s₁ B hml hv
  obtain ⟨rfl, hsz, hP, hK, hD0, hst, hno⟩ := hv
  have hx := B.exec
  have hb := B.bytes
  have hr := B.returns
  have hts := atoms_spec (ws := wsX9_write) B.pre
  have hown : s.vm.findClass RX9 = some m.cls := findClass_of_methodNamed B.named
  have hlocks := B.notSynchronized
  subst hsz
  have hD := hD0.self (sz := s.heap.size)
  generalize hAe : va_A [(am, .inr (8, [.int th, .int mb, .ref mo, .int us, .int me, .int rc, .int (zb dn), .int lf, .int mw, .int mf, .ref m_p, .ref m_w, .ref m_l, .ref m_v, .int ms, .int mu, .long ml, .ref m_r, .int mz, .ref m_q])), (mo, .inl (y 4, 2, .inr (.inr (.inr (.inr (outr m1 m2)))))), (m1, .inl (y 0, nb, .inl c1)), (m2, .inl (y 0, nb, .inl c2)), (m_p, .inl (y 1, 121, .inl mpa)), (m_w, .inl (y 1, 121, .inl mwe)), (m_l, .inl (y 3, 121, .inl mli)), (m_v, .inl (y 2, 121, .inr (.inl mvo))), (m_r, .inl (y 0, 32, .inl mro)), (m_q, .inl (y 1, 260, .inl mpl))] s.heap.size = A at hD hst ⊢
  have hA : ∀ q : Nat, s.heap.size ≤ q → A q := fun q h => by rw [← hAe]; exact Or.inr h
  have hS : va_S A s.heap s.heap [] := va_S.rf
  have E : Ev D y A s := ⟨hK, hst, hno, hA⟩
  have hfix : CallFix p m c cX9_write 4 s _ wsX9_write RX9 := ⟨hx, hb, hml, hown, hts⟩
  have hP : va_P D vwCl [(am, .inr (8, [.int th, .int mb, .ref mo, .int us, .int me, .int rc, .int (zb dn), .int lf, .int mw, .int mf, .ref m_p, .ref m_w, .ref m_l, .ref m_v, .int ms, .int mu, .long ml, .ref m_r, .int mz, .ref m_q])), (mo, .inl (y 4, 2, .inr (.inr (.inr (.inr (outr m1 m2)))))), (m1, .inl (y 0, nb, .inl c1)), (m2, .inl (y 0, nb, .inl c2)), (m_p, .inl (y 1, 121, .inl mpa)), (m_w, .inl (y 1, 121, .inl mwe)), (m_l, .inl (y 3, 121, .inl mli)), (m_v, .inl (y 2, 121, .inr (.inl mvo))), (m_r, .inl (y 0, 32, .inl mro)), (m_q, .inl (y 1, 260, .inl mpl))] s.heap := hP
  have iX9 : ∀ w ∈ wsX90, w ∈ wsX9_write := by decide +kernel
  have hl := lv_entry ([.ref am, .int p1, .int p2, .int p3]) (n := 4) (Nat.le_of_ble_eq_true rfl)
  rw [lg_entry_eq]
  generalize (lg_sl ([.ref am, .int p1, .int p2, .int p3]) ++ List.replicate (4 - (lg_sl ([.ref am, .int p1, .int p2, .int p3])).length) Slot.unset).toArray = ls at hl ⊢
  have hl : lv_has ls 4 [(0, .ref am), (1, .int p1), (2, .int p2), (3, .int p3)] := hl
  unfold fX9_write at hf
  refine lv_aload_n hx hb dX9_write_0 rfl (lv_at hl 0 rfl) ?_
  refine va_get (D := D) (ci := 8) (v := .int lf) (C := RX9) (T := TX9) (N := 20) hx hb hts iX9 hown hK hP 0 rfl rfl 7 (by decide) (hts (.fieldLink RX9 9 "SampleTrackerModel" "left" "I") (by decide +kernel)) (fun _ h9 => h9) rfl dX9_write_1 ?_
  refine lv_if_ne (tgt := 13) hx hb dX9_write_4 (by decide) (fun c_1 => ?_) (fun c_1 => ?_)
  · have hf := ifn hf c_1
    refine lv_aload_n hx hb dX9_write_13 rfl (lv_at hl 0 rfl) ?_
    refine va_get (D := D) (ci := 8) (v := .ref mo) (C := RX9) (T := TX9) (N := 20) hx hb hts iX9 hown hK hP 0 rfl rfl 2 (by decide) (hts (.fieldLink RX9 40 "SampleTrackerModel" "bank" "[[B") (by decide +kernel)) (fun _ h9 => h9) rfl dX9_write_14 ?_
    refine lv_iload_n hx hb dX9_write_17 rfl (lv_at hl 1 rfl) ?_
    by_cases c_2 : p1 = 0
    · have hf := ifp hf c_2
      refine al_0 (hi := c_2) hx hb hK hP 1 4 rfl rfl dX9_write_18 ?_
      refine lv_iload_n hx hb dX9_write_19 rfl (lv_at hl 2 rfl) ?_
      refine lv_iload_n hx hb dX9_write_20 rfl (lv_at hl 3 rfl) ?_
      obtain ⟨h_4, hf⟩ := ibk hf
      refine va_bast hx hb hK hP hD hS 2 0 rfl rfl (ib_in h_4) dX9_write_21 (fun H locs hP hD hS => ?_)
      have hP : va_P D vwCl [(am, .inr (8, [.int th, .int mb, .ref mo, .int us, .int me, .int rc, .int (zb dn), .int lf, .int mw, .int mf, .ref m_p, .ref m_w, .ref m_l, .ref m_v, .int ms, .int mu, .long ml, .ref m_r, .int mz, .ref m_q])), (mo, .inl (y 4, 2, .inr (.inr (.inr (.inr (outr m1 m2)))))), (m1, .inl (y 0, nb, .inl (upd c1 p2.toNatClampNeg (vp_nar .byte p3)))), (m2, .inl (y 0, nb, .inl c2)), (m_p, .inl (y 1, 121, .inl mpa)), (m_w, .inl (y 1, 121, .inl mwe)), (m_l, .inl (y 3, 121, .inl mli)), (m_v, .inl (y 2, 121, .inr (.inl mvo))), (m_r, .inl (y 0, 32, .inl mro)), (m_q, .inl (y 1, 260, .inl mpl))] H := hP
      have hD : va_D A [(am, .inr (8, [.int th, .int mb, .ref mo, .int us, .int me, .int rc, .int (zb dn), .int lf, .int mw, .int mf, .ref m_p, .ref m_w, .ref m_l, .ref m_v, .int ms, .int mu, .long ml, .ref m_r, .int mz, .ref m_q])), (mo, .inl (y 4, 2, .inr (.inr (.inr (.inr (outr m1 m2)))))), (m1, .inl (y 0, nb, .inl (upd c1 p2.toNatClampNeg (vp_nar .byte p3)))), (m2, .inl (y 0, nb, .inl c2)), (m_p, .inl (y 1, 121, .inl mpa)), (m_w, .inl (y 1, 121, .inl mwe)), (m_l, .inl (y 3, 121, .inl mli)), (m_v, .inl (y 2, 121, .inr (.inl mvo))), (m_r, .inl (y 0, 32, .inl mro)), (m_q, .inl (y 1, 260, .inl mpl))] := hD
      refine lv_aload_n hx hb dX9_write_22 rfl (lv_at hl 0 rfl) ?_
      refine lv_dup hx hb dX9_write_23 rfl ?_
      refine va_get (D := D) (ci := 8) (v := .int mw) (C := RX9) (T := TX9) (N := 20) hx hb hts iX9 hown hK hP 0 rfl rfl 8 (by decide) (hts (.fieldLink RX9 74 "SampleTrackerModel" "written" "I") (by decide +kernel)) (fun _ h9 => h9) rfl dX9_write_24 ?_
      refine lv_iconst (v := (1 : Int32)) hx hb dX9_write_27 (by decide) ?_
      refine lv_iadd hx hb dX9_write_28 ?_
      refine va_put (D := D) (ci := 8) (v := .int (mw + (1 : Int32))) (ty := .int) (C := RX9) (T := TX9) (N := 20) hx hb hts iX9 tyX9 tyX9_ok nmX9 hown hK hP hD hS 0 rfl rfl 8 (by decide) (hts (.fieldLink RX9 74 "SampleTrackerModel" "written" "I") (by decide +kernel)) (fun _ h9 => h9) rfl (by decide +kernel) rfl rfl (Nat.le_of_ble_eq_true rfl) dX9_write_29 (fun H locs hP hD hS => ?_)
      have hP : va_P D vwCl [(am, .inr (8, [.int th, .int mb, .ref mo, .int us, .int me, .int rc, .int (zb dn), .int lf, .int (mw + (1 : Int32)), .int mf, .ref m_p, .ref m_w, .ref m_l, .ref m_v, .int ms, .int mu, .long ml, .ref m_r, .int mz, .ref m_q])), (mo, .inl (y 4, 2, .inr (.inr (.inr (.inr (outr m1 m2)))))), (m1, .inl (y 0, nb, .inl (upd c1 p2.toNatClampNeg (vp_nar .byte p3)))), (m2, .inl (y 0, nb, .inl c2)), (m_p, .inl (y 1, 121, .inl mpa)), (m_w, .inl (y 1, 121, .inl mwe)), (m_l, .inl (y 3, 121, .inl mli)), (m_v, .inl (y 2, 121, .inr (.inl mvo))), (m_r, .inl (y 0, 32, .inl mro)), (m_q, .inl (y 1, 260, .inl mpl))] H := hP
      have hD : va_D A [(am, .inr (8, [.int th, .int mb, .ref mo, .int us, .int me, .int rc, .int (zb dn), .int lf, .int (mw + (1 : Int32)), .int mf, .ref m_p, .ref m_w, .ref m_l, .ref m_v, .int ms, .int mu, .long ml, .ref m_r, .int mz, .ref m_q])), (mo, .inl (y 4, 2, .inr (.inr (.inr (.inr (outr m1 m2)))))), (m1, .inl (y 0, nb, .inl (upd c1 p2.toNatClampNeg (vp_nar .byte p3)))), (m2, .inl (y 0, nb, .inl c2)), (m_p, .inl (y 1, 121, .inl mpa)), (m_w, .inl (y 1, 121, .inl mwe)), (m_l, .inl (y 3, 121, .inl mli)), (m_v, .inl (y 2, 121, .inr (.inl mvo))), (m_r, .inl (y 0, 32, .inl mro)), (m_q, .inl (y 1, 260, .inl mpl))] := hD
      refine lv_aload_n hx hb dX9_write_32 rfl (lv_at hl 0 rfl) ?_
      refine va_get (D := D) (ci := 8) (v := .int lf) (C := RX9) (T := TX9) (N := 20) hx hb hts iX9 hown hK hP 0 rfl rfl 7 (by decide) (hts (.fieldLink RX9 9 "SampleTrackerModel" "left" "I") (by decide +kernel)) (fun _ h9 => h9) rfl dX9_write_33 ?_
      refine lv_if_le (tgt := 62) hx hb dX9_write_36 (by decide) (fun c_5 => ?_) (fun c_5 => ?_)
      · have hf := ifp hf c_5
        refine lv_iconst (v := (1 : Int32)) hx hb dX9_write_62 (by decide) ?_
        obtain rfl := Option.some.inj hf
        exact W.zret (ty := .boolean) hx hb hr rfl (fun t ht hW => ⟨⟨(), rfl, by rw [ht]; exact hP, hD⟩, hS.F ht⟩) hS.2.2 dX9_write_63
      · have hf := ifn hf c_5
        refine lv_aload_n hx hb dX9_write_39 rfl (lv_at hl 0 rfl) ?_
        refine lv_dup hx hb dX9_write_40 rfl ?_
        refine va_get (D := D) (ci := 8) (v := .int lf) (C := RX9) (T := TX9) (N := 20) hx hb hts iX9 hown hK hP 0 rfl rfl 7 (by decide) (hts (.fieldLink RX9 9 "SampleTrackerModel" "left" "I") (by decide +kernel)) (fun _ h9 => h9) rfl dX9_write_41 ?_
        refine lv_iconst (v := (1 : Int32)) hx hb dX9_write_44 (by decide) ?_
        refine lv_isub hx hb dX9_write_45 ?_
        refine va_put (D := D) (ci := 8) (v := .int (lf - (1 : Int32))) (ty := .int) (C := RX9) (T := TX9) (N := 20) hx hb hts iX9 tyX9 tyX9_ok nmX9 hown hK hP hD hS 0 rfl rfl 7 (by decide) (hts (.fieldLink RX9 9 "SampleTrackerModel" "left" "I") (by decide +kernel)) (fun _ h9 => h9) rfl (by decide +kernel) rfl rfl (Nat.le_of_ble_eq_true rfl) dX9_write_46 (fun H locs hP hD hS => ?_)
        have hP : va_P D vwCl [(am, .inr (8, [.int th, .int mb, .ref mo, .int us, .int me, .int rc, .int (zb dn), .int (lf - (1 : Int32)), .int (mw + (1 : Int32)), .int mf, .ref m_p, .ref m_w, .ref m_l, .ref m_v, .int ms, .int mu, .long ml, .ref m_r, .int mz, .ref m_q])), (mo, .inl (y 4, 2, .inr (.inr (.inr (.inr (outr m1 m2)))))), (m1, .inl (y 0, nb, .inl (upd c1 p2.toNatClampNeg (vp_nar .byte p3)))), (m2, .inl (y 0, nb, .inl c2)), (m_p, .inl (y 1, 121, .inl mpa)), (m_w, .inl (y 1, 121, .inl mwe)), (m_l, .inl (y 3, 121, .inl mli)), (m_v, .inl (y 2, 121, .inr (.inl mvo))), (m_r, .inl (y 0, 32, .inl mro)), (m_q, .inl (y 1, 260, .inl mpl))] H := hP
        have hD : va_D A [(am, .inr (8, [.int th, .int mb, .ref mo, .int us, .int me, .int rc, .int (zb dn), .int (lf - (1 : Int32)), .int (mw + (1 : Int32)), .int mf, .ref m_p, .ref m_w, .ref m_l, .ref m_v, .int ms, .int mu, .long ml, .ref m_r, .int mz, .ref m_q])), (mo, .inl (y 4, 2, .inr (.inr (.inr (.inr (outr m1 m2)))))), (m1, .inl (y 0, nb, .inl (upd c1 p2.toNatClampNeg (vp_nar .byte p3)))), (m2, .inl (y 0, nb, .inl c2)), (m_p, .inl (y 1, 121, .inl mpa)), (m_w, .inl (y 1, 121, .inl mwe)), (m_l, .inl (y 3, 121, .inl mli)), (m_v, .inl (y 2, 121, .inr (.inl mvo))), (m_r, .inl (y 0, 32, .inl mro)), (m_q, .inl (y 1, 260, .inl mpl))] := hD
        refine lv_aload_n hx hb dX9_write_49 rfl (lv_at hl 0 rfl) ?_
        refine va_get (D := D) (ci := 8) (v := .int (lf - (1 : Int32))) (C := RX9) (T := TX9) (N := 20) hx hb hts iX9 hown hK hP 0 rfl rfl 7 (by decide) (hts (.fieldLink RX9 9 "SampleTrackerModel" "left" "I") (by decide +kernel)) (fun _ h9 => h9) rfl dX9_write_50 ?_
        refine lv_if_ne (tgt := 62) hx hb dX9_write_53 (by decide) (fun c_6 => ?_) (fun c_6 => ?_)
        · have hf := ifn hf c_6
          refine lv_iconst (v := (1 : Int32)) hx hb dX9_write_62 (by decide) ?_
          obtain rfl := Option.some.inj hf
          exact W.zret (ty := .boolean) hx hb hr rfl (fun t ht hW => ⟨⟨(), rfl, by rw [ht]; exact hP, hD⟩, hS.F ht⟩) hS.2.2 dX9_write_63
        · have hf := ifp hf c_6
          refine lv_aload_n hx hb dX9_write_56 rfl (lv_at hl 0 rfl) ?_
          refine ct_V (As := []) (rest := []) (wr := []) (wn := [(am, .inr (8, [.int th, .int mb, .ref mo, .int us, .int me, .int rc, .int (zb true), .int (-1 : Int32), .int (mw + (1 : Int32)), .int (mf + (1 : Int32)), .ref m_p, .ref m_w, .ref m_l, .ref m_v, .int ms, .int mu, .long ml, .ref m_r, .int mz, .ref m_q])), (mo, .inl (y 4, 2, .inr (.inr (.inr (.inr (outr m1 m2)))))), (m1, .inl (y 0, nb, .inl (upd c1 p2.toNatClampNeg (vp_nar .byte p3)))), (m2, .inl (y 0, nb, .inl c2)), (m_p, .inl (y 1, 121, .inl mpa)), (m_w, .inl (y 1, 121, .inl mwe)), (m_l, .inl (y 3, 121, .inl mli)), (m_v, .inl (y 2, 121, .inr (.inl mvo))), (m_r, .inl (y 0, 32, .inl mro)), (m_q, .inl (y 1, 260, .inl mpl))]) hfix (cX9_fails_ok l D y am mo m1 m2 m_p m_w m_l m_v m_r m_q nb th mb us me rc dn (lf - (1 : Int32)) (mw + (1 : Int32)) mf ms mu ml mz (upd c1 p2.toNatClampNeg (vp_nar .byte p3)) c2 mpa mwe mli mvo mro mpl) (cwV 0 hts gX9_write_X9_fails rfl rfl rfl (by decide +kernel) ⟨Nat.le_of_ble_eq_true rfl, Nat.le_of_ble_eq_true rfl⟩) E hP hD hS [0, 1, 2, 3, 4, 5, 6, 7, 8, 9] [] [0, 1, 2, 3, 4, 5, 6, 7, 8, 9] rfl rfl rfl rfl (by decide) rfl rfl 0 8 rfl rfl rfl hl.1 rfl (Nat.le_of_ble_eq_true rfl) dX9_write_57 ⟨Nat.zero_le _, Nat.zero_le _⟩ (fun H locs hP hD hS => ?_)
          refine W.eq (g2 := F0 m 60 ls []) rfl ?_
          refine lv_iconst (v := (0 : Int32)) hx hb dX9_write_60 (by decide) ?_
          obtain rfl := Option.some.inj hf
          exact W.zret (ty := .boolean) hx hb hr rfl (fun t ht hW => ⟨⟨(), rfl, by rw [ht]; exact hP, hD⟩, hS.F ht⟩) hS.2.2 dX9_write_61
    · have hf := ifn hf c_2
      by_cases c_3 : p1 = 1
      · have hf := ifp hf c_3
        refine al_1 (hi := c_3) hx hb hK hP 1 4 rfl rfl dX9_write_18 ?_
        refine lv_iload_n hx hb dX9_write_19 rfl (lv_at hl 2 rfl) ?_
        refine lv_iload_n hx hb dX9_write_20 rfl (lv_at hl 3 rfl) ?_
        obtain ⟨h_8, hf⟩ := ibk hf
        refine va_bast hx hb hK hP hD hS 3 0 rfl rfl (ib_in h_8) dX9_write_21 (fun H locs hP hD hS => ?_)
        have hP : va_P D vwCl [(am, .inr (8, [.int th, .int mb, .ref mo, .int us, .int me, .int rc, .int (zb dn), .int lf, .int mw, .int mf, .ref m_p, .ref m_w, .ref m_l, .ref m_v, .int ms, .int mu, .long ml, .ref m_r, .int mz, .ref m_q])), (mo, .inl (y 4, 2, .inr (.inr (.inr (.inr (outr m1 m2)))))), (m1, .inl (y 0, nb, .inl c1)), (m2, .inl (y 0, nb, .inl (upd c2 p2.toNatClampNeg (vp_nar .byte p3)))), (m_p, .inl (y 1, 121, .inl mpa)), (m_w, .inl (y 1, 121, .inl mwe)), (m_l, .inl (y 3, 121, .inl mli)), (m_v, .inl (y 2, 121, .inr (.inl mvo))), (m_r, .inl (y 0, 32, .inl mro)), (m_q, .inl (y 1, 260, .inl mpl))] H := hP
        have hD : va_D A [(am, .inr (8, [.int th, .int mb, .ref mo, .int us, .int me, .int rc, .int (zb dn), .int lf, .int mw, .int mf, .ref m_p, .ref m_w, .ref m_l, .ref m_v, .int ms, .int mu, .long ml, .ref m_r, .int mz, .ref m_q])), (mo, .inl (y 4, 2, .inr (.inr (.inr (.inr (outr m1 m2)))))), (m1, .inl (y 0, nb, .inl c1)), (m2, .inl (y 0, nb, .inl (upd c2 p2.toNatClampNeg (vp_nar .byte p3)))), (m_p, .inl (y 1, 121, .inl mpa)), (m_w, .inl (y 1, 121, .inl mwe)), (m_l, .inl (y 3, 121, .inl mli)), (m_v, .inl (y 2, 121, .inr (.inl mvo))), (m_r, .inl (y 0, 32, .inl mro)), (m_q, .inl (y 1, 260, .inl mpl))] := hD
        refine lv_aload_n hx hb dX9_write_22 rfl (lv_at hl 0 rfl) ?_
        refine lv_dup hx hb dX9_write_23 rfl ?_
        refine va_get (D := D) (ci := 8) (v := .int mw) (C := RX9) (T := TX9) (N := 20) hx hb hts iX9 hown hK hP 0 rfl rfl 8 (by decide) (hts (.fieldLink RX9 74 "SampleTrackerModel" "written" "I") (by decide +kernel)) (fun _ h9 => h9) rfl dX9_write_24 ?_
        refine lv_iconst (v := (1 : Int32)) hx hb dX9_write_27 (by decide) ?_
        refine lv_iadd hx hb dX9_write_28 ?_
        refine va_put (D := D) (ci := 8) (v := .int (mw + (1 : Int32))) (ty := .int) (C := RX9) (T := TX9) (N := 20) hx hb hts iX9 tyX9 tyX9_ok nmX9 hown hK hP hD hS 0 rfl rfl 8 (by decide) (hts (.fieldLink RX9 74 "SampleTrackerModel" "written" "I") (by decide +kernel)) (fun _ h9 => h9) rfl (by decide +kernel) rfl rfl (Nat.le_of_ble_eq_true rfl) dX9_write_29 (fun H locs hP hD hS => ?_)
        have hP : va_P D vwCl [(am, .inr (8, [.int th, .int mb, .ref mo, .int us, .int me, .int rc, .int (zb dn), .int lf, .int (mw + (1 : Int32)), .int mf, .ref m_p, .ref m_w, .ref m_l, .ref m_v, .int ms, .int mu, .long ml, .ref m_r, .int mz, .ref m_q])), (mo, .inl (y 4, 2, .inr (.inr (.inr (.inr (outr m1 m2)))))), (m1, .inl (y 0, nb, .inl c1)), (m2, .inl (y 0, nb, .inl (upd c2 p2.toNatClampNeg (vp_nar .byte p3)))), (m_p, .inl (y 1, 121, .inl mpa)), (m_w, .inl (y 1, 121, .inl mwe)), (m_l, .inl (y 3, 121, .inl mli)), (m_v, .inl (y 2, 121, .inr (.inl mvo))), (m_r, .inl (y 0, 32, .inl mro)), (m_q, .inl (y 1, 260, .inl mpl))] H := hP
        have hD : va_D A [(am, .inr (8, [.int th, .int mb, .ref mo, .int us, .int me, .int rc, .int (zb dn), .int lf, .int (mw + (1 : Int32)), .int mf, .ref m_p, .ref m_w, .ref m_l, .ref m_v, .int ms, .int mu, .long ml, .ref m_r, .int mz, .ref m_q])), (mo, .inl (y 4, 2, .inr (.inr (.inr (.inr (outr m1 m2)))))), (m1, .inl (y 0, nb, .inl c1)), (m2, .inl (y 0, nb, .inl (upd c2 p2.toNatClampNeg (vp_nar .byte p3)))), (m_p, .inl (y 1, 121, .inl mpa)), (m_w, .inl (y 1, 121, .inl mwe)), (m_l, .inl (y 3, 121, .inl mli)), (m_v, .inl (y 2, 121, .inr (.inl mvo))), (m_r, .inl (y 0, 32, .inl mro)), (m_q, .inl (y 1, 260, .inl mpl))] := hD
        refine lv_aload_n hx hb dX9_write_32 rfl (lv_at hl 0 rfl) ?_
        refine va_get (D := D) (ci := 8) (v := .int lf) (C := RX9) (T := TX9) (N := 20) hx hb hts iX9 hown hK hP 0 rfl rfl 7 (by decide) (hts (.fieldLink RX9 9 "SampleTrackerModel" "left" "I") (by decide +kernel)) (fun _ h9 => h9) rfl dX9_write_33 ?_
        refine lv_if_le (tgt := 62) hx hb dX9_write_36 (by decide) (fun c_9 => ?_) (fun c_9 => ?_)
        · have hf := ifp hf c_9
          refine lv_iconst (v := (1 : Int32)) hx hb dX9_write_62 (by decide) ?_
          obtain rfl := Option.some.inj hf
          exact W.zret (ty := .boolean) hx hb hr rfl (fun t ht hW => ⟨⟨(), rfl, by rw [ht]; exact hP, hD⟩, hS.F ht⟩) hS.2.2 dX9_write_63
        · have hf := ifn hf c_9
          refine lv_aload_n hx hb dX9_write_39 rfl (lv_at hl 0 rfl) ?_
          refine lv_dup hx hb dX9_write_40 rfl ?_
          refine va_get (D := D) (ci := 8) (v := .int lf) (C := RX9) (T := TX9) (N := 20) hx hb hts iX9 hown hK hP 0 rfl rfl 7 (by decide) (hts (.fieldLink RX9 9 "SampleTrackerModel" "left" "I") (by decide +kernel)) (fun _ h9 => h9) rfl dX9_write_41 ?_
          refine lv_iconst (v := (1 : Int32)) hx hb dX9_write_44 (by decide) ?_
          refine lv_isub hx hb dX9_write_45 ?_
          refine va_put (D := D) (ci := 8) (v := .int (lf - (1 : Int32))) (ty := .int) (C := RX9) (T := TX9) (N := 20) hx hb hts iX9 tyX9 tyX9_ok nmX9 hown hK hP hD hS 0 rfl rfl 7 (by decide) (hts (.fieldLink RX9 9 "SampleTrackerModel" "left" "I") (by decide +kernel)) (fun _ h9 => h9) rfl (by decide +kernel) rfl rfl (Nat.le_of_ble_eq_true rfl) dX9_write_46 (fun H locs hP hD hS => ?_)
          have hP : va_P D vwCl [(am, .inr (8, [.int th, .int mb, .ref mo, .int us, .int me, .int rc, .int (zb dn), .int (lf - (1 : Int32)), .int (mw + (1 : Int32)), .int mf, .ref m_p, .ref m_w, .ref m_l, .ref m_v, .int ms, .int mu, .long ml, .ref m_r, .int mz, .ref m_q])), (mo, .inl (y 4, 2, .inr (.inr (.inr (.inr (outr m1 m2)))))), (m1, .inl (y 0, nb, .inl c1)), (m2, .inl (y 0, nb, .inl (upd c2 p2.toNatClampNeg (vp_nar .byte p3)))), (m_p, .inl (y 1, 121, .inl mpa)), (m_w, .inl (y 1, 121, .inl mwe)), (m_l, .inl (y 3, 121, .inl mli)), (m_v, .inl (y 2, 121, .inr (.inl mvo))), (m_r, .inl (y 0, 32, .inl mro)), (m_q, .inl (y 1, 260, .inl mpl))] H := hP
          have hD : va_D A [(am, .inr (8, [.int th, .int mb, .ref mo, .int us, .int me, .int rc, .int (zb dn), .int (lf - (1 : Int32)), .int (mw + (1 : Int32)), .int mf, .ref m_p, .ref m_w, .ref m_l, .ref m_v, .int ms, .int mu, .long ml, .ref m_r, .int mz, .ref m_q])), (mo, .inl (y 4, 2, .inr (.inr (.inr (.inr (outr m1 m2)))))), (m1, .inl (y 0, nb, .inl c1)), (m2, .inl (y 0, nb, .inl (upd c2 p2.toNatClampNeg (vp_nar .byte p3)))), (m_p, .inl (y 1, 121, .inl mpa)), (m_w, .inl (y 1, 121, .inl mwe)), (m_l, .inl (y 3, 121, .inl mli)), (m_v, .inl (y 2, 121, .inr (.inl mvo))), (m_r, .inl (y 0, 32, .inl mro)), (m_q, .inl (y 1, 260, .inl mpl))] := hD
          refine lv_aload_n hx hb dX9_write_49 rfl (lv_at hl 0 rfl) ?_
          refine va_get (D := D) (ci := 8) (v := .int (lf - (1 : Int32))) (C := RX9) (T := TX9) (N := 20) hx hb hts iX9 hown hK hP 0 rfl rfl 7 (by decide) (hts (.fieldLink RX9 9 "SampleTrackerModel" "left" "I") (by decide +kernel)) (fun _ h9 => h9) rfl dX9_write_50 ?_
          refine lv_if_ne (tgt := 62) hx hb dX9_write_53 (by decide) (fun c_10 => ?_) (fun c_10 => ?_)
          · have hf := ifn hf c_10
            refine lv_iconst (v := (1 : Int32)) hx hb dX9_write_62 (by decide) ?_
            obtain rfl := Option.some.inj hf
            exact W.zret (ty := .boolean) hx hb hr rfl (fun t ht hW => ⟨⟨(), rfl, by rw [ht]; exact hP, hD⟩, hS.F ht⟩) hS.2.2 dX9_write_63
          · have hf := ifp hf c_10
            refine lv_aload_n hx hb dX9_write_56 rfl (lv_at hl 0 rfl) ?_
            refine ct_V (As := []) (rest := []) (wr := []) (wn := [(am, .inr (8, [.int th, .int mb, .ref mo, .int us, .int me, .int rc, .int (zb true), .int (-1 : Int32), .int (mw + (1 : Int32)), .int (mf + (1 : Int32)), .ref m_p, .ref m_w, .ref m_l, .ref m_v, .int ms, .int mu, .long ml, .ref m_r, .int mz, .ref m_q])), (mo, .inl (y 4, 2, .inr (.inr (.inr (.inr (outr m1 m2)))))), (m1, .inl (y 0, nb, .inl c1)), (m2, .inl (y 0, nb, .inl (upd c2 p2.toNatClampNeg (vp_nar .byte p3)))), (m_p, .inl (y 1, 121, .inl mpa)), (m_w, .inl (y 1, 121, .inl mwe)), (m_l, .inl (y 3, 121, .inl mli)), (m_v, .inl (y 2, 121, .inr (.inl mvo))), (m_r, .inl (y 0, 32, .inl mro)), (m_q, .inl (y 1, 260, .inl mpl))]) hfix (cX9_fails_ok l D y am mo m1 m2 m_p m_w m_l m_v m_r m_q nb th mb us me rc dn (lf - (1 : Int32)) (mw + (1 : Int32)) mf ms mu ml mz c1 (upd c2 p2.toNatClampNeg (vp_nar .byte p3)) mpa mwe mli mvo mro mpl) (cwV 0 hts gX9_write_X9_fails rfl rfl rfl (by decide +kernel) ⟨Nat.le_of_ble_eq_true rfl, Nat.le_of_ble_eq_true rfl⟩) E hP hD hS [0, 1, 2, 3, 4, 5, 6, 7, 8, 9] [] [0, 1, 2, 3, 4, 5, 6, 7, 8, 9] rfl rfl rfl rfl (by decide) rfl rfl 0 8 rfl rfl rfl hl.1 rfl (Nat.le_of_ble_eq_true rfl) dX9_write_57 ⟨Nat.zero_le _, Nat.zero_le _⟩ (fun H locs hP hD hS => ?_)
            refine W.eq (g2 := F0 m 60 ls []) rfl ?_
            refine lv_iconst (v := (0 : Int32)) hx hb dX9_write_60 (by decide) ?_
            obtain rfl := Option.some.inj hf
            exact W.zret (ty := .boolean) hx hb hr rfl (fun t ht hW => ⟨⟨(), rfl, by rw [ht]; exact hP, hD⟩, hS.F ht⟩) hS.2.2 dX9_write_61
      · have hf := ifn hf c_3
        exact absurd hf (fun q => by cases q)
  · have hf := ifp hf c_1
    refine lv_aload_n hx hb dX9_write_7 rfl (lv_at hl 0 rfl) ?_
    refine ct_V (As := []) (rest := []) (wr := []) (wn := [(am, .inr (8, [.int th, .int mb, .ref mo, .int us, .int me, .int rc, .int (zb true), .int (-1 : Int32), .int mw, .int (mf + (1 : Int32)), .ref m_p, .ref m_w, .ref m_l, .ref m_v, .int ms, .int mu, .long ml, .ref m_r, .int mz, .ref m_q])), (mo, .inl (y 4, 2, .inr (.inr (.inr (.inr (outr m1 m2)))))), (m1, .inl (y 0, nb, .inl c1)), (m2, .inl (y 0, nb, .inl c2)), (m_p, .inl (y 1, 121, .inl mpa)), (m_w, .inl (y 1, 121, .inl mwe)), (m_l, .inl (y 3, 121, .inl mli)), (m_v, .inl (y 2, 121, .inr (.inl mvo))), (m_r, .inl (y 0, 32, .inl mro)), (m_q, .inl (y 1, 260, .inl mpl))]) hfix (cX9_fails_ok l D y am mo m1 m2 m_p m_w m_l m_v m_r m_q nb th mb us me rc dn lf mw mf ms mu ml mz c1 c2 mpa mwe mli mvo mro mpl) (cwV 0 hts gX9_write_X9_fails rfl rfl rfl (by decide +kernel) ⟨Nat.le_of_ble_eq_true rfl, Nat.le_of_ble_eq_true rfl⟩) E hP hD hS [0, 1, 2, 3, 4, 5, 6, 7, 8, 9] [] [0, 1, 2, 3, 4, 5, 6, 7, 8, 9] rfl rfl rfl rfl (by decide) rfl rfl 0 8 rfl rfl rfl hl.1 rfl (Nat.le_of_ble_eq_true rfl) dX9_write_8 ⟨Nat.zero_le _, Nat.zero_le _⟩ (fun H locs hP hD hS => ?_)
    refine W.eq (g2 := F0 m 11 ls []) rfl ?_
    refine lv_iconst (v := (0 : Int32)) hx hb dX9_write_11 (by decide) ?_
    obtain rfl := Option.some.inj hf
    exact W.zret (ty := .boolean) hx hb hr rfl (fun t ht hW => ⟨⟨(), rfl, by rw [ht]; exact hP, hD⟩, hS.F ht⟩) hS.2.2 dX9_write_12

def fX9_writeRow_2 (nb : Nat) (mz : Int32) (mro : Nat → Int32) (p1 : Int32) (p2 : Int32) : Nat → Int32 → Bool → Int32 → Int32 → Int32 → (Nat → Int32) → (Nat → Int32) → Option (Bool × Bool × Int32 × Int32 × Int32 × (Nat → Int32) × (Nat → Int32))
  | 0, _, _, _, _, _, _, _ => none
  | n2 + 1, v2_0, v2_1, v2_2, v2_3, v2_4, v2_5, v2_6 => (if mz ≤ v2_0 then some (true, v2_1, v2_2, v2_3, v2_4, v2_5, v2_6) else (if (ib v2_0 32) = true then ((fX9_write nb v2_1 v2_2 v2_3 v2_4 v2_5 v2_6 p1 (p2 + v2_0) (mro v2_0.toNatClampNeg)).bind fun (r_3, o_dn_4, o_lf_5, o_mw_6, o_mf_7, o_c1_8, o_c2_9) => (if (zb r_3) = 0 then some (false, o_dn_4, o_lf_5, o_mw_6, o_mf_7, o_c1_8, o_c2_9) else fX9_writeRow_2 nb mz mro p1 p2 n2 (v2_0 + (1 : Int32)) o_dn_4 o_lf_5 o_mw_6 o_mf_7 o_c1_8 o_c2_9)) else none))

def fX9_writeRow (nb : Nat) (dn : Bool) (lf : Int32) (mw : Int32) (mf : Int32) (mz : Int32) (c1 : Nat → Int32) (c2 : Nat → Int32) (mro : Nat → Int32) (p1 : Int32) (p2 : Int32) : Option (Bool × Bool × Int32 × Int32 × Int32 × (Nat → Int32) × (Nat → Int32)) := fX9_writeRow_2 nb mz mro p1 p2 FU (0 : Int32) dn lf mw mf c1 c2

set_option maxHeartbeats 4000000 in
set_option maxRecDepth 100000 in
theorem cX9_writeRow_ok (l : Launch) (D : va_G) (y : Nat → ClassId) (am : Nat) (mo : Nat) (m1 : Nat) (m2 : Nat) (m_p : Nat) (m_w : Nat) (m_l : Nat) (m_v : Nat) (m_r : Nat) (m_q : Nat) (nb : Nat) (th : Int32) (mb : Int32) (us : Int32) (me : Int32) (rc : Int32) (dn : Bool) (lf : Int32) (mw : Int32) (mf : Int32) (ms : Int32) (mu : Int32) (ml : Int64) (mz : Int32) (c1 : Nat → Int32) (c2 : Nat → Int32) (mpa : Nat → Int32) (mwe : Nat → Int32) (mli : Nat → Int32) (mvo : Nat → Int64) (mro : Nat → Int32) (mpl : Nat → Int32) (p1 : Int32) (p2 : Int32) (res : Bool × Bool × Int32 × Int32 × Int32 × (Nat → Int32) × (Nat → Int32)) (hf : fX9_writeRow nb dn lf mw mf mz c1 c2 mro p1 p2 = some res) : CT l D y yX9_writeRow wsX9_writeRow ({ frames := 2, cells := 0, slots := 0, locals := 43 } : Room) [.ref am, .int p1, .int p2] [(am, .inr (8, [.int th, .int mb, .ref mo, .int us, .int me, .int rc, .int (zb dn), .int lf, .int mw, .int mf, .ref m_p, .ref m_w, .ref m_l, .ref m_v, .int ms, .int mu, .long ml, .ref m_r, .int mz, .ref m_q])), (mo, .inl (y 4, 2, .inr (.inr (.inr (.inr (outr m1 m2)))))), (m1, .inl (y 0, nb, .inl c1)), (m2, .inl (y 0, nb, .inl c2)), (m_p, .inl (y 1, 121, .inl mpa)), (m_w, .inl (y 1, 121, .inl mwe)), (m_l, .inl (y 3, 121, .inl mli)), (m_v, .inl (y 2, 121, .inr (.inl mvo))), (m_r, .inl (y 0, 32, .inl mro)), (m_q, .inl (y 1, 260, .inl mpl))] (some (.int (zb res.1))) [(am, .inr (8, [.int th, .int mb, .ref mo, .int us, .int me, .int rc, .int (zb res.2.1), .int res.2.2.1, .int res.2.2.2.1, .int res.2.2.2.2.1, .ref m_p, .ref m_w, .ref m_l, .ref m_v, .int ms, .int mu, .long ml, .ref m_r, .int mz, .ref m_q])), (mo, .inl (y 4, 2, .inr (.inr (.inr (.inr (outr m1 m2)))))), (m1, .inl (y 0, nb, .inl res.2.2.2.2.2.1)), (m2, .inl (y 0, nb, .inl res.2.2.2.2.2.2)), (m_p, .inl (y 1, 121, .inl mpa)), (m_w, .inl (y 1, 121, .inl mwe)), (m_l, .inl (y 3, 121, .inl mli)), (m_v, .inl (y 2, 121, .inr (.inl mvo))), (m_r, .inl (y 0, 32, .inl mro)), (m_q, .inl (y 1, 260, .inl mpl))] := by
  intro sz
  refine Met.ofW (cc := cX9_writeRow) (maxL := 4) (ret := (some .boolean)) (by decide) rfl ?_
  intro p e s m args below meth c s₁ B hml hv
  obtain ⟨rfl, hsz, hP, hK, hD0, hst, hno⟩ := hv
  have hx := B.exec
  have hb := B.bytes
  have hr := B.returns
  have hts := atoms_spec (ws := wsX9_writeRow) B.pre
  have hown : s.vm.findClass RX9 = some m.cls := findClass_of_methodNamed B.named
  have hlocks := B.notSynchronized
  subst hsz
  have hD := hD0.self (sz := s.heap.size)
  generalize hAe : va_A [(am, .inr (8, [.int th, .int mb, .ref mo, .int us, .int me, .int rc, .int (zb dn), .int lf, .int mw, .int mf, .ref m_p, .ref m_w, .ref m_l, .ref m_v, .int ms, .int mu, .long ml, .ref m_r, .int mz, .ref m_q])), (mo, .inl (y 4, 2, .inr (.inr (.inr (.inr (outr m1 m2)))))), (m1, .inl (y 0, nb, .inl c1)), (m2, .inl (y 0, nb, .inl c2)), (m_p, .inl (y 1, 121, .inl mpa)), (m_w, .inl (y 1, 121, .inl mwe)), (m_l, .inl (y 3, 121, .inl mli)), (m_v, .inl (y 2, 121, .inr (.inl mvo))), (m_r, .inl (y 0, 32, .inl mro)), (m_q, .inl (y 1, 260, .inl mpl))] s.heap.size = A at hD hst ⊢
  have hA : ∀ q : Nat, s.heap.size ≤ q → A q := fun q h => by rw [← hAe]; exact Or.inr h
  have hS : va_S A s.heap s.heap [] := va_S.rf
  have E : Ev D y A s := ⟨hK, hst, hno, hA⟩
  have hfix : CallFix p m c cX9_writeRow 4 s _ wsX9_writeRow RX9 := ⟨hx, hb, hml, hown, hts⟩
  have hP : va_P D vwCl [(am, .inr (8, [.int th, .int mb, .ref mo, .int us, .int me, .int rc, .int (zb dn), .int lf, .int mw, .int mf, .ref m_p, .ref m_w, .ref m_l, .ref m_v, .int ms, .int mu, .long ml, .ref m_r, .int mz, .ref m_q])), (mo, .inl (y 4, 2, .inr (.inr (.inr (.inr (outr m1 m2)))))), (m1, .inl (y 0, nb, .inl c1)), (m2, .inl (y 0, nb, .inl c2)), (m_p, .inl (y 1, 121, .inl mpa)), (m_w, .inl (y 1, 121, .inl mwe)), (m_l, .inl (y 3, 121, .inl mli)), (m_v, .inl (y 2, 121, .inr (.inl mvo))), (m_r, .inl (y 0, 32, .inl mro)), (m_q, .inl (y 1, 260, .inl mpl))] s.heap := hP
  have iX9 : ∀ w ∈ wsX90, w ∈ wsX9_writeRow := by decide +kernel
  have hl := lv_entry ([.ref am, .int p1, .int p2]) (n := 4) (Nat.le_of_ble_eq_true rfl)
  rw [lg_entry_eq]
  generalize (lg_sl ([.ref am, .int p1, .int p2]) ++ List.replicate (4 - (lg_sl ([.ref am, .int p1, .int p2])).length) Slot.unset).toArray = ls at hl ⊢
  have hl : lv_has ls 4 [(0, .ref am), (1, .int p1), (2, .int p2)] := hl
  have hL2 : ∀ (n2 : Nat) (v2_0 : Int32) (v2_1 : Bool) (v2_2 : Int32) (v2_3 : Int32) (v2_4 : Int32) (v2_5 : Nat → Int32) (v2_6 : Nat → Int32) (H : Heap) (locs : List Loc) (ls : Array Slot), fX9_writeRow_2 nb mz mro p1 p2 n2 v2_0 v2_1 v2_2 v2_3 v2_4 v2_5 v2_6 = some res → va_P D vwCl [(am, .inr (8, [.int th, .int mb, .ref mo, .int us, .int me, .int rc, .int (zb v2_1), .int v2_2, .int v2_3, .int v2_4, .ref m_p, .ref m_w, .ref m_l, .ref m_v, .int ms, .int mu, .long ml, .ref m_r, .int mz, .ref m_q])), (mo, .inl (y 4, 2, .inr (.inr (.inr (.inr (outr m1 m2)))))), (m1, .inl (y 0, nb, .inl v2_5)), (m2, .inl (y 0, nb, .inl v2_6)), (m_p, .inl (y 1, 121, .inl mpa)), (m_w, .inl (y 1, 121, .inl mwe)), (m_l, .inl (y 3, 121, .inl mli)), (m_v, .inl (y 2, 121, .inr (.inl mvo))), (m_r, .inl (y 0, 32, .inl mro)), (m_q, .inl (y 1, 260, .inl mpl))] H → va_D A [(am, .inr (8, [.int th, .int mb, .ref mo, .int us, .int me, .int rc, .int (zb v2_1), .int v2_2, .int v2_3, .int v2_4, .ref m_p, .ref m_w, .ref m_l, .ref m_v, .int ms, .int mu, .long ml, .ref m_r, .int mz, .ref m_q])), (mo, .inl (y 4, 2, .inr (.inr (.inr (.inr (outr m1 m2)))))), (m1, .inl (y 0, nb, .inl v2_5)), (m2, .inl (y 0, nb, .inl v2_6)), (m_p, .inl (y 1, 121, .inl mpa)), (m_w, .inl (y 1, 121, .inl mwe)), (m_l, .inl (y 3, 121, .inl mli)), (m_v, .inl (y 2, 121, .inr (.inl mvo))), (m_r, .inl (y 0, 32, .inl mro)), (m_q, .inl (y 1, 260, .inl mpl))] → va_S A s.heap H locs → lv_has ls 4 [(0, .ref am), (1, .int p1), (2, .int p2), (3, .int v2_0)] → W p l e (headSpec wsX9_writeRow ({ frames := 2, cells := 0, slots := 0, locals := 43 } : Room)).room s m ([.ref am, .int p1, .int p2] : List Value).toArray below meth c H locs 0 0 (MQ below (Po D (fun _ : Unit => some (.int (zb res.1))) (fun _ => [(am, .inr (8, [.int th, .int mb, .ref mo, .int us, .int me, .int rc, .int (zb res.2.1), .int res.2.2.1, .int res.2.2.2.1, .int res.2.2.2.2.1, .ref m_p, .ref m_w, .ref m_l, .ref m_v, .int ms, .int mu, .long ml, .ref m_r, .int mz, .ref m_q])), (mo, .inl (y 4, 2, .inr (.inr (.inr (.inr (outr m1 m2)))))), (m1, .inl (y 0, nb, .inl res.2.2.2.2.2.1)), (m2, .inl (y 0, nb, .inl res.2.2.2.2.2.2)), (m_p, .inl (y 1, 121, .inl mpa)), (m_w, .inl (y 1, 121, .inl mwe)), (m_l, .inl (y 3, 121, .inl mli)), (m_v, .inl (y 2, 121, .inr (.inl mvo))), (m_r, .inl (y 0, 32, .inl mro)), (m_q, .inl (y 1, 260, .inl mpl))]) A) ([.ref am, .int p1, .int p2] : List Value).toArray s 0 0 A) (F0 m 2 ls []) := by
    intro n2
    induction n2 with
    | zero =>
      intro v2_0 v2_1 v2_2 v2_3 v2_4 v2_5 v2_6 H locs ls hf
      exact absurd (show (none : Option (Bool × Bool × Int32 × Int32 × Int32 × (Nat → Int32) × (Nat → Int32))) = some res from hf) (fun q => by cases q)
    | succ n2 ih2 =>
      intro v2_0 v2_1 v2_2 v2_3 v2_4 v2_5 v2_6 H locs ls hf hP hD hS hl
      unfold fX9_writeRow_2 at hf
      refine lv_iload_n hx hb dX9_writeRow_2 rfl (lv_at hl 3 rfl) ?_
      refine lv_aload_n hx hb dX9_writeRow_3 rfl (lv_at hl 0 rfl) ?_
      refine va_get (D := D) (ci := 8) (v := .int mz) (C := RX9) (T := TX9) (N := 20) hx hb hts iX9 hown hK hP 0 rfl rfl 18 (by decide) (hts (.fieldLink RX9 43 "SampleTrackerModel" "size" "I") (by decide +kernel)) (fun _ h9 => h9) rfl dX9_writeRow_4 ?_
      refine lv_icmp_ge (tgt := 35) hx hb dX9_writeRow_7 (by decide) (fun c_1 => ?_) (fun c_1 => ?_)
      · have hf := ifp hf c_1
        refine lv_iconst (v := (1 : Int32)) hx hb dX9_writeRow_35 (by decide) ?_
        obtain rfl := Option.some.inj hf
        exact W.zret (ty := .boolean) hx hb hr rfl (fun t ht hW => ⟨⟨(), rfl, by rw [ht]; exact hP, hD⟩, hS.F ht⟩) hS.2.2 dX9_writeRow_36
      · have hf := ifn hf c_1
        refine lv_aload_n hx hb dX9_writeRow_10 rfl (lv_at hl 0 rfl) ?_
        refine lv_iload_n hx hb dX9_writeRow_11 rfl (lv_at hl 1 rfl) ?_
        refine lv_iload_n hx hb dX9_writeRow_12 rfl (lv_at hl 2 rfl) ?_
        refine lv_iload_n hx hb dX9_writeRow_13 rfl (lv_at hl 3 rfl) ?_
        refine lv_iadd hx hb dX9_writeRow_14 ?_
        refine lv_aload_n hx hb dX9_writeRow_15 rfl (lv_at hl 0 rfl) ?_
        refine va_get (D := D) (ci := 8) (v := .ref m_r) (C := RX9) (T := TX9) (N := 20) hx hb hts iX9 hown hK hP 0 rfl rfl 17 (by decide) (hts (.fieldLink RX9 28 "SampleTrackerModel" "row" "[B") (by decide +kernel)) (fun _ h9 => h9) rfl dX9_writeRow_16 ?_
        refine lv_iload_n hx hb dX9_writeRow_19 rfl (lv_at hl 3 rfl) ?_
        obtain ⟨h_2, hf⟩ := ibk hf
        refine va_bald hx hb hK hP 8 0 rfl rfl (ib_in h_2) dX9_writeRow_20 ?_
        obtain ⟨⟨r_3, o_dn_4, o_lf_5, o_mw_6, o_mf_7, o_c1_8, o_c2_9⟩, hc_10, hf⟩ := obd hf
        refine ct_V (As := [.int p1, .int (p2 + v2_0), .int (mro v2_0.toNatClampNeg)]) (rest := []) (wr := []) (wn := [(am, .inr (8, [.int th, .int mb, .ref mo, .int us, .int me, .int rc, .int (zb o_dn_4), .int o_lf_5, .int o_mw_6, .int o_mf_7, .ref m_p, .ref m_w, .ref m_l, .ref m_v, .int ms, .int mu, .long ml, .ref m_r, .int mz, .ref m_q])), (mo, .inl (y 4, 2, .inr (.inr (.inr (.inr (outr m1 m2)))))), (m1, .inl (y 0, nb, .inl o_c1_8)), (m2, .inl (y 0, nb, .inl o_c2_9)), (m_p, .inl (y 1, 121, .inl mpa)), (m_w, .inl (y 1, 121, .inl mwe)), (m_l, .inl (y 3, 121, .inl mli)), (m_v, .inl (y 2, 121, .inr (.inl mvo))), (m_r, .inl (y 0, 32, .inl mro)), (m_q, .inl (y 1, 260, .inl mpl))]) hfix (cX9_write_ok l D y am mo m1 m2 m_p m_w m_l m_v m_r m_q nb th mb us me rc v2_1 v2_2 v2_3 v2_4 ms mu ml mz v2_5 v2_6 mpa mwe mli mvo mro mpl p1 (p2 + v2_0) (mro v2_0.toNatClampNeg) _ hc_10) (cwV 3 hts gX9_writeRow_X9_write rfl rfl rfl (by decide +kernel) ⟨Nat.le_of_ble_eq_true rfl, Nat.le_of_ble_eq_true rfl⟩) E hP hD hS [0, 1, 2, 3, 4, 5, 6, 7, 8, 9] [] [0, 1, 2, 3, 4, 5, 6, 7, 8, 9] rfl rfl rfl rfl (by decide) rfl rfl 0 8 rfl rfl rfl hl.1 rfl (Nat.le_of_ble_eq_true rfl) dX9_writeRow_21 ⟨Nat.zero_le _, Nat.zero_le _⟩ (fun H locs hP hD hS => ?_)
        refine W.eq (g2 := F0 m 24 ls [.int (zb r_3)]) rfl ?_
        refine lv_if_ne (tgt := 29) hx hb dX9_writeRow_24 (by decide) (fun c_11 => ?_) (fun c_11 => ?_)
        · have hf := ifn hf c_11
          refine lv_iinc (v := (v2_0 + (1 : Int32))) (lv' := [(3, .int (v2_0 + (1 : Int32))), (0, .ref am), (1, .int p1), (2, .int p2)]) hx hb dX9_writeRow_29 hl (k := 3) rfl rfl (by decide) rfl (fun ls hl => ?_)
          refine lv_goto (tgt := 2) hx hb dX9_writeRow_32 (by decide) ?_
          exact ih2 (v2_0 + (1 : Int32)) o_dn_4 o_lf_5 o_mw_6 o_mf_7 o_c1_8 o_c2_9 _ _ _ hf hP hD hS (lv_sub hl [1, 2, 3, 0] rfl)
        · have hf := ifp hf c_11
          refine lv_iconst (v := (0 : Int32)) hx hb dX9_writeRow_27 (by decide) ?_
          obtain rfl := Option.some.inj hf
          exact W.zret (ty := .boolean) hx hb hr rfl (fun t ht hW => ⟨⟨(), rfl, by rw [ht]; exact hP, hD⟩, hS.F ht⟩) hS.2.2 dX9_writeRow_28
  unfold fX9_writeRow at hf
  refine lv_iconst (v := (0 : Int32)) hx hb dX9_writeRow_0 (by decide) ?_
  refine lv_istore_n (lv' := [(3, .int (0 : Int32)), (0, .ref am), (1, .int p1), (2, .int p2)]) hx hb dX9_writeRow_1 rfl hl (by decide) rfl (fun ls hl => ?_)
  exact hL2 FU (0 : Int32) dn lf mw mf c1 c2 _ _ _ hf hP hD hS (lv_sub hl [1, 2, 3, 0] rfl)

def fX9_cut (dn : Bool) (lf : Int32) (p1 : Int32) : Option (Int32 × Int32) := (if p1 < 0 then some ((-1 : Int32), lf) else (if (zb dn) = 0 then some ((1 : Int32), p1) else some ((-1 : Int32), lf)))

set_option maxHeartbeats 4000000 in
set_option maxRecDepth 100000 in
theorem cX9_cut_ok (l : Launch) (D : va_G) (y : Nat → ClassId) (am : Nat) (mo : Nat) (m1 : Nat) (m2 : Nat) (m_p : Nat) (m_w : Nat) (m_l : Nat) (m_v : Nat) (m_r : Nat) (m_q : Nat) (nb : Nat) (th : Int32) (mb : Int32) (us : Int32) (me : Int32) (rc : Int32) (dn : Bool) (lf : Int32) (mw : Int32) (mf : Int32) (ms : Int32) (mu : Int32) (ml : Int64) (mz : Int32) (c1 : Nat → Int32) (c2 : Nat → Int32) (mpa : Nat → Int32) (mwe : Nat → Int32) (mli : Nat → Int32) (mvo : Nat → Int64) (mro : Nat → Int32) (mpl : Nat → Int32) (p1 : Int32) (res : Int32 × Int32) (hf : fX9_cut dn lf p1 = some res) : CT l D y yX9_cut wsX9_cut ({ frames := 0, cells := 0, slots := 0, locals := 0 } : Room) [.ref am, .int p1] [(am, .inr (8, [.int th, .int mb, .ref mo, .int us, .int me, .int rc, .int (zb dn), .int lf, .int mw, .int mf, .ref m_p, .ref m_w, .ref m_l, .ref m_v, .int ms, .int mu, .long ml, .ref m_r, .int mz, .ref m_q])), (mo, .inl (y 4, 2, .inr (.inr (.inr (.inr (outr m1 m2)))))), (m1, .inl (y 0, nb, .inl c1)), (m2, .inl (y 0, nb, .inl c2)), (m_p, .inl (y 1, 121, .inl mpa)), (m_w, .inl (y 1, 121, .inl mwe)), (m_l, .inl (y 3, 121, .inl mli)), (m_v, .inl (y 2, 121, .inr (.inl mvo))), (m_r, .inl (y 0, 32, .inl mro)), (m_q, .inl (y 1, 260, .inl mpl))] (some (.int res.1)) [(am, .inr (8, [.int th, .int mb, .ref mo, .int us, .int me, .int rc, .int (zb dn), .int res.2, .int mw, .int mf, .ref m_p, .ref m_w, .ref m_l, .ref m_v, .int ms, .int mu, .long ml, .ref m_r, .int mz, .ref m_q])), (mo, .inl (y 4, 2, .inr (.inr (.inr (.inr (outr m1 m2)))))), (m1, .inl (y 0, nb, .inl c1)), (m2, .inl (y 0, nb, .inl c2)), (m_p, .inl (y 1, 121, .inl mpa)), (m_w, .inl (y 1, 121, .inl mwe)), (m_l, .inl (y 3, 121, .inl mli)), (m_v, .inl (y 2, 121, .inr (.inl mvo))), (m_r, .inl (y 0, 32, .inl mro)), (m_q, .inl (y 1, 260, .inl mpl))] := by
  intro sz
  refine Met.ofW (cc := cX9_cut) (maxL := 2) (ret := (some .int)) (by decide) rfl ?_
  intro p e s m args below meth c s₁ B hml hv
  obtain ⟨rfl, hsz, hP, hK, hD0, hst, hno⟩ := hv
  have hx := B.exec
  have hb := B.bytes
  have hr := B.returns
  have hts := atoms_spec (ws := wsX9_cut) B.pre
  have hown : s.vm.findClass RX9 = some m.cls := findClass_of_methodNamed B.named
  have hlocks := B.notSynchronized
  subst hsz
  have hD := hD0.self (sz := s.heap.size)
  generalize hAe : va_A [(am, .inr (8, [.int th, .int mb, .ref mo, .int us, .int me, .int rc, .int (zb dn), .int lf, .int mw, .int mf, .ref m_p, .ref m_w, .ref m_l, .ref m_v, .int ms, .int mu, .long ml, .ref m_r, .int mz, .ref m_q])), (mo, .inl (y 4, 2, .inr (.inr (.inr (.inr (outr m1 m2)))))), (m1, .inl (y 0, nb, .inl c1)), (m2, .inl (y 0, nb, .inl c2)), (m_p, .inl (y 1, 121, .inl mpa)), (m_w, .inl (y 1, 121, .inl mwe)), (m_l, .inl (y 3, 121, .inl mli)), (m_v, .inl (y 2, 121, .inr (.inl mvo))), (m_r, .inl (y 0, 32, .inl mro)), (m_q, .inl (y 1, 260, .inl mpl))] s.heap.size = A at hD hst ⊢
  have hA : ∀ q : Nat, s.heap.size ≤ q → A q := fun q h => by rw [← hAe]; exact Or.inr h
  have hS : va_S A s.heap s.heap [] := va_S.rf
  have E : Ev D y A s := ⟨hK, hst, hno, hA⟩
  have hfix : CallFix p m c cX9_cut 2 s _ wsX9_cut RX9 := ⟨hx, hb, hml, hown, hts⟩
  have hP : va_P D vwCl [(am, .inr (8, [.int th, .int mb, .ref mo, .int us, .int me, .int rc, .int (zb dn), .int lf, .int mw, .int mf, .ref m_p, .ref m_w, .ref m_l, .ref m_v, .int ms, .int mu, .long ml, .ref m_r, .int mz, .ref m_q])), (mo, .inl (y 4, 2, .inr (.inr (.inr (.inr (outr m1 m2)))))), (m1, .inl (y 0, nb, .inl c1)), (m2, .inl (y 0, nb, .inl c2)), (m_p, .inl (y 1, 121, .inl mpa)), (m_w, .inl (y 1, 121, .inl mwe)), (m_l, .inl (y 3, 121, .inl mli)), (m_v, .inl (y 2, 121, .inr (.inl mvo))), (m_r, .inl (y 0, 32, .inl mro)), (m_q, .inl (y 1, 260, .inl mpl))] s.heap := hP
  have iX9 : ∀ w ∈ wsX90, w ∈ wsX9_cut := by decide +kernel
  have hl := lv_entry ([.ref am, .int p1]) (n := 2) (Nat.le_of_ble_eq_true rfl)
  rw [lg_entry_eq]
  generalize (lg_sl ([.ref am, .int p1]) ++ List.replicate (2 - (lg_sl ([.ref am, .int p1])).length) Slot.unset).toArray = ls at hl ⊢
  have hl : lv_has ls 2 [(0, .ref am), (1, .int p1)] := hl
  unfold fX9_cut at hf
  refine lv_iload_n hx hb dX9_cut_0 rfl (lv_at hl 1 rfl) ?_
  refine lv_if_lt (tgt := 11) hx hb dX9_cut_1 (by decide) (fun c_1 => ?_) (fun c_1 => ?_)
  · have hf := ifp hf c_1
    refine lv_iconst (v := (-1 : Int32)) hx hb dX9_cut_11 (by decide) ?_
    obtain rfl := Option.some.inj hf
    exact W.iret hx hb hr (fun t ht hW => ⟨⟨(), rfl, by rw [ht]; exact hP, hD⟩, hS.F ht⟩) hS.2.2 dX9_cut_12
  · have hf := ifn hf c_1
    refine lv_aload_n hx hb dX9_cut_4 rfl (lv_at hl 0 rfl) ?_
    refine va_get (D := D) (ci := 8) (v := .int (zb dn)) (C := RX9) (T := TX9) (N := 20) hx hb hts iX9 hown hK hP 0 rfl rfl 6 (by decide) (hts (.fieldLink RX9 77 "SampleTrackerModel" "isDown" "Z") (by decide +kernel)) (fun _ h9 => h9) rfl dX9_cut_5 ?_
    refine lv_if_eq (tgt := 13) hx hb dX9_cut_8 (by decide) (fun c_2 => ?_) (fun c_2 => ?_)
    · have hf := ifp hf c_2
      refine lv_aload_n hx hb dX9_cut_13 rfl (lv_at hl 0 rfl) ?_
      refine lv_iload_n hx hb dX9_cut_14 rfl (lv_at hl 1 rfl) ?_
      refine va_put (D := D) (ci := 8) (v := .int p1) (ty := .int) (C := RX9) (T := TX9) (N := 20) hx hb hts iX9 tyX9 tyX9_ok nmX9 hown hK hP hD hS 0 rfl rfl 7 (by decide) (hts (.fieldLink RX9 9 "SampleTrackerModel" "left" "I") (by decide +kernel)) (fun _ h9 => h9) rfl (by decide +kernel) rfl rfl (Nat.le_of_ble_eq_true rfl) dX9_cut_15 (fun H locs hP hD hS => ?_)
      have hP : va_P D vwCl [(am, .inr (8, [.int th, .int mb, .ref mo, .int us, .int me, .int rc, .int (zb dn), .int p1, .int mw, .int mf, .ref m_p, .ref m_w, .ref m_l, .ref m_v, .int ms, .int mu, .long ml, .ref m_r, .int mz, .ref m_q])), (mo, .inl (y 4, 2, .inr (.inr (.inr (.inr (outr m1 m2)))))), (m1, .inl (y 0, nb, .inl c1)), (m2, .inl (y 0, nb, .inl c2)), (m_p, .inl (y 1, 121, .inl mpa)), (m_w, .inl (y 1, 121, .inl mwe)), (m_l, .inl (y 3, 121, .inl mli)), (m_v, .inl (y 2, 121, .inr (.inl mvo))), (m_r, .inl (y 0, 32, .inl mro)), (m_q, .inl (y 1, 260, .inl mpl))] H := hP
      have hD : va_D A [(am, .inr (8, [.int th, .int mb, .ref mo, .int us, .int me, .int rc, .int (zb dn), .int p1, .int mw, .int mf, .ref m_p, .ref m_w, .ref m_l, .ref m_v, .int ms, .int mu, .long ml, .ref m_r, .int mz, .ref m_q])), (mo, .inl (y 4, 2, .inr (.inr (.inr (.inr (outr m1 m2)))))), (m1, .inl (y 0, nb, .inl c1)), (m2, .inl (y 0, nb, .inl c2)), (m_p, .inl (y 1, 121, .inl mpa)), (m_w, .inl (y 1, 121, .inl mwe)), (m_l, .inl (y 3, 121, .inl mli)), (m_v, .inl (y 2, 121, .inr (.inl mvo))), (m_r, .inl (y 0, 32, .inl mro)), (m_q, .inl (y 1, 260, .inl mpl))] := hD
      refine lv_iconst (v := (1 : Int32)) hx hb dX9_cut_18 (by decide) ?_
      obtain rfl := Option.some.inj hf
      exact W.iret hx hb hr (fun t ht hW => ⟨⟨(), rfl, by rw [ht]; exact hP, hD⟩, hS.F ht⟩) hS.2.2 dX9_cut_19
    · have hf := ifn hf c_2
      refine lv_iconst (v := (-1 : Int32)) hx hb dX9_cut_11 (by decide) ?_
      obtain rfl := Option.some.inj hf
      exact W.iret hx hb hr (fun t ht hW => ⟨⟨(), rfl, by rw [ht]; exact hP, hD⟩, hS.F ht⟩) hS.2.2 dX9_cut_12

def fX9_isRight (nb : Nat) (c1 : Nat → Int32) (c2 : Nat → Int32) (p1 : Int32) : Option (Bool) := (if p1 = 0 then ((fX9_take nb c1 (4 : Int32) (4 : Int32)).bind fun r_3 => ((fX9_crc nb c1 (0 : Int32) (4 : Int32)).bind fun r_5 => (if (r_3.toInt32) = r_5 then (if (ib (8 : Int32) nb) = true then (if ((c1 (8 : Int32).toNatClampNeg) &&& (255 : Int32)) = (165 : Int32) then some true else some false) else none) else some false))) else if p1 = 1 then ((fX9_take nb c2 (4 : Int32) (4 : Int32)).bind fun r_10 => ((fX9_crc nb c2 (0 : Int32) (4 : Int32)).bind fun r_12 => (if (r_10.toInt32) = r_12 then (if (ib (8 : Int32) nb) = true then (if ((c2 (8 : Int32).toNatClampNeg) &&& (255 : Int32)) = (165 : Int32) then some true else some false) else none) else some false))) else none)

set_option maxHeartbeats 4000000 in
set_option maxRecDepth 100000 in
theorem cX9_isRight_ok (l : Launch) (D : va_G) (y : Nat → ClassId) (am : Nat) (mo : Nat) (m1 : Nat) (m2 : Nat) (m_p : Nat) (m_w : Nat) (m_l : Nat) (m_v : Nat) (m_r : Nat) (m_q : Nat) (nb : Nat) (th : Int32) (mb : Int32) (us : Int32) (me : Int32) (rc : Int32) (dn : Bool) (lf : Int32) (mw : Int32) (mf : Int32) (ms : Int32) (mu : Int32) (ml : Int64) (mz : Int32) (c1 : Nat → Int32) (c2 : Nat → Int32) (mpa : Nat → Int32) (mwe : Nat → Int32) (mli : Nat → Int32) (mvo : Nat → Int64) (mro : Nat → Int32) (mpl : Nat → Int32) (p1 : Int32) (res : Bool) (hf : fX9_isRight nb c1 c2 p1 = some res) : CT l D y yX9_isRight wsX9_isRight ({ frames := 1, cells := 0, slots := 0, locals := 25 } : Room) [.ref am, .int p1] [(am, .inr (8, [.int th, .int mb, .ref mo, .int us, .int me, .int rc, .int (zb dn), .int lf, .int mw, .int mf, .ref m_p, .ref m_w, .ref m_l, .ref m_v, .int ms, .int mu, .long ml, .ref m_r, .int mz, .ref m_q])), (mo, .inl (y 4, 2, .inr (.inr (.inr (.inr (outr m1 m2)))))), (m1, .inl (y 0, nb, .inl c1)), (m2, .inl (y 0, nb, .inl c2)), (m_p, .inl (y 1, 121, .inl mpa)), (m_w, .inl (y 1, 121, .inl mwe)), (m_l, .inl (y 3, 121, .inl mli)), (m_v, .inl (y 2, 121, .inr (.inl mvo))), (m_r, .inl (y 0, 32, .inl mro)), (m_q, .inl (y 1, 260, .inl mpl))] (some (.int (zb res))) [(am, .inr (8, [.int th, .int mb, .ref mo, .int us, .int me, .int rc, .int (zb dn), .int lf, .int mw, .int mf, .ref m_p, .ref m_w, .ref m_l, .ref m_v, .int ms, .int mu, .long ml, .ref m_r, .int mz, .ref m_q])), (mo, .inl (y 4, 2, .inr (.inr (.inr (.inr (outr m1 m2)))))), (m1, .inl (y 0, nb, .inl c1)), (m2, .inl (y 0, nb, .inl c2)), (m_p, .inl (y 1, 121, .inl mpa)), (m_w, .inl (y 1, 121, .inl mwe)), (m_l, .inl (y 3, 121, .inl mli)), (m_v, .inl (y 2, 121, .inr (.inl mvo))), (m_r, .inl (y 0, 32, .inl mro)), (m_q, .inl (y 1, 260, .inl mpl))] := by
  intro sz
  refine Met.ofW (cc := cX9_isRight) (maxL := 2) (ret := (some .boolean)) (by decide) rfl ?_
  intro p e s m args below meth c s₁ B hml hv
  obtain ⟨rfl, hsz, hP, hK, hD0, hst, hno⟩ := hv
  have hx := B.exec
  have hb := B.bytes
  have hr := B.returns
  have hts := atoms_spec (ws := wsX9_isRight) B.pre
  have hown : s.vm.findClass RX9 = some m.cls := findClass_of_methodNamed B.named
  have hlocks := B.notSynchronized
  subst hsz
  have hD := hD0.self (sz := s.heap.size)
  generalize hAe : va_A [(am, .inr (8, [.int th, .int mb, .ref mo, .int us, .int me, .int rc, .int (zb dn), .int lf, .int mw, .int mf, .ref m_p, .ref m_w, .ref m_l, .ref m_v, .int ms, .int mu, .long ml, .ref m_r, .int mz, .ref m_q])), (mo, .inl (y 4, 2, .inr (.inr (.inr (.inr (outr m1 m2)))))), (m1, .inl (y 0, nb, .inl c1)), (m2, .inl (y 0, nb, .inl c2)), (m_p, .inl (y 1, 121, .inl mpa)), (m_w, .inl (y 1, 121, .inl mwe)), (m_l, .inl (y 3, 121, .inl mli)), (m_v, .inl (y 2, 121, .inr (.inl mvo))), (m_r, .inl (y 0, 32, .inl mro)), (m_q, .inl (y 1, 260, .inl mpl))] s.heap.size = A at hD hst ⊢
  have hA : ∀ q : Nat, s.heap.size ≤ q → A q := fun q h => by rw [← hAe]; exact Or.inr h
  have hS : va_S A s.heap s.heap [] := va_S.rf
  have E : Ev D y A s := ⟨hK, hst, hno, hA⟩
  have hfix : CallFix p m c cX9_isRight 2 s _ wsX9_isRight RX9 := ⟨hx, hb, hml, hown, hts⟩
  have hP : va_P D vwCl [(am, .inr (8, [.int th, .int mb, .ref mo, .int us, .int me, .int rc, .int (zb dn), .int lf, .int mw, .int mf, .ref m_p, .ref m_w, .ref m_l, .ref m_v, .int ms, .int mu, .long ml, .ref m_r, .int mz, .ref m_q])), (mo, .inl (y 4, 2, .inr (.inr (.inr (.inr (outr m1 m2)))))), (m1, .inl (y 0, nb, .inl c1)), (m2, .inl (y 0, nb, .inl c2)), (m_p, .inl (y 1, 121, .inl mpa)), (m_w, .inl (y 1, 121, .inl mwe)), (m_l, .inl (y 3, 121, .inl mli)), (m_v, .inl (y 2, 121, .inr (.inl mvo))), (m_r, .inl (y 0, 32, .inl mro)), (m_q, .inl (y 1, 260, .inl mpl))] s.heap := hP
  have iX9 : ∀ w ∈ wsX90, w ∈ wsX9_isRight := by decide +kernel
  have hl := lv_entry ([.ref am, .int p1]) (n := 2) (Nat.le_of_ble_eq_true rfl)
  rw [lg_entry_eq]
  generalize (lg_sl ([.ref am, .int p1]) ++ List.replicate (2 - (lg_sl ([.ref am, .int p1])).length) Slot.unset).toArray = ls at hl ⊢
  have hl : lv_has ls 2 [(0, .ref am), (1, .int p1)] := hl
  unfold fX9_isRight at hf
  refine lv_aload_n hx hb dX9_isRight_0 rfl (lv_at hl 0 rfl) ?_
  refine va_get (D := D) (ci := 8) (v := .ref mo) (C := RX9) (T := TX9) (N := 20) hx hb hts iX9 hown hK hP 0 rfl rfl 2 (by decide) (hts (.fieldLink RX9 40 "SampleTrackerModel" "bank" "[[B") (by decide +kernel)) (fun _ h9 => h9) rfl dX9_isRight_1 ?_
  refine lv_iload_n hx hb dX9_isRight_4 rfl (lv_at hl 1 rfl) ?_
  by_cases c_1 : p1 = 0
  · have hf := ifp hf c_1
    refine al_0 (hi := c_1) hx hb hK hP 1 4 rfl rfl dX9_isRight_5 ?_
    refine lv_iconst (v := (4 : Int32)) hx hb dX9_isRight_6 (by decide) ?_
    refine lv_iconst (v := (4 : Int32)) hx hb dX9_isRight_7 (by decide) ?_
    obtain ⟨r_3, hc_4, hf⟩ := obd hf
    refine ct_S (As := [.ref m1, .int (4 : Int32), .int (4 : Int32)]) (rest := []) (wr := [(am, .inr (8, [.int th, .int mb, .ref mo, .int us, .int me, .int rc, .int (zb dn), .int lf, .int mw, .int mf, .ref m_p, .ref m_w, .ref m_l, .ref m_v, .int ms, .int mu, .long ml, .ref m_r, .int mz, .ref m_q])), (mo, .inl (y 4, 2, .inr (.inr (.inr (.inr (outr m1 m2)))))), (m2, .inl (y 0, nb, .inl c2)), (m_p, .inl (y 1, 121, .inl mpa)), (m_w, .inl (y 1, 121, .inl mwe)), (m_l, .inl (y 3, 121, .inl mli)), (m_v, .inl (y 2, 121, .inr (.inl mvo))), (m_r, .inl (y 0, 32, .inl mro)), (m_q, .inl (y 1, 260, .inl mpl))]) (wn := [(am, .inr (8, [.int th, .int mb, .ref mo, .int us, .int me, .int rc, .int (zb dn), .int lf, .int mw, .int mf, .ref m_p, .ref m_w, .ref m_l, .ref m_v, .int ms, .int mu, .long ml, .ref m_r, .int mz, .ref m_q])), (mo, .inl (y 4, 2, .inr (.inr (.inr (.inr (outr m1 m2)))))), (m1, .inl (y 0, nb, .inl c1)), (m2, .inl (y 0, nb, .inl c2)), (m_p, .inl (y 1, 121, .inl mpa)), (m_w, .inl (y 1, 121, .inl mwe)), (m_l, .inl (y 3, 121, .inl mli)), (m_v, .inl (y 2, 121, .inr (.inl mvo))), (m_r, .inl (y 0, 32, .inl mro)), (m_q, .inl (y 1, 260, .inl mpl))]) hfix (cX9_take_ok l D y m1 nb c1 (4 : Int32) (4 : Int32) _ hc_4) (va_cwS 3 hts gX9_isRight_X9_take rfl rfl rfl (by decide +kernel) ⟨Nat.le_of_ble_eq_true rfl, Nat.le_of_ble_eq_true rfl⟩) E hP hD hS [2] [0, 1, 3, 4, 5, 6, 7, 8, 9] [0, 1, 9, 2, 3, 4, 5, 6, 7, 8] rfl rfl rfl rfl (by decide) rfl rfl rfl hl.1 rfl (Nat.le_of_ble_eq_true rfl) dX9_isRight_8 ⟨Nat.zero_le _, Nat.zero_le _⟩ (fun H locs hP hD hS => ?_)
    refine W.eq (g2 := F0 m 11 ls [.long r_3]) rfl ?_
    refine lv_l2i (v := (r_3.toInt32)) hx hb dX9_isRight_11 rfl ?_
    refine lv_aload_n hx hb dX9_isRight_12 rfl (lv_at hl 0 rfl) ?_
    refine va_get (D := D) (ci := 8) (v := .ref mo) (C := RX9) (T := TX9) (N := 20) hx hb hts iX9 hown hK hP 0 rfl rfl 2 (by decide) (hts (.fieldLink RX9 40 "SampleTrackerModel" "bank" "[[B") (by decide +kernel)) (fun _ h9 => h9) rfl dX9_isRight_13 ?_
    refine lv_iload_n hx hb dX9_isRight_16 rfl (lv_at hl 1 rfl) ?_
    refine al_0 (hi := c_1) hx hb hK hP 1 4 rfl rfl dX9_isRight_17 ?_
    refine lv_iconst (v := (0 : Int32)) hx hb dX9_isRight_18 (by decide) ?_
    refine lv_iconst (v := (4 : Int32)) hx hb dX9_isRight_19 (by decide) ?_
    obtain ⟨r_5, hc_6, hf⟩ := obd hf
    refine ct_S (As := [.ref m1, .int (0 : Int32), .int (4 : Int32)]) (rest := [.int (r_3.toInt32)]) (wr := [(am, .inr (8, [.int th, .int mb, .ref mo, .int us, .int me, .int rc, .int (zb dn), .int lf, .int mw, .int mf, .ref m_p, .ref m_w, .ref m_l, .ref m_v, .int ms, .int mu, .long ml, .ref m_r, .int mz, .ref m_q])), (mo, .inl (y 4, 2, .inr (.inr (.inr (.inr (outr m1 m2)))))), (m2, .inl (y 0, nb, .inl c2)), (m_p, .inl (y 1, 121, .inl mpa)), (m_w, .inl (y 1, 121, .inl mwe)), (m_l, .inl (y 3, 121, .inl mli)), (m_v, .inl (y 2, 121, .inr (.inl mvo))), (m_r, .inl (y 0, 32, .inl mro)), (m_q, .inl (y 1, 260, .inl mpl))]) (wn := [(am, .inr (8, [.int th, .int mb, .ref mo, .int us, .int me, .int rc, .int (zb dn), .int lf, .int mw, .int mf, .ref m_p, .ref m_w, .ref m_l, .ref m_v, .int ms, .int mu, .long ml, .ref m_r, .int mz, .ref m_q])), (mo, .inl (y 4, 2, .inr (.inr (.inr (.inr (outr m1 m2)))))), (m1, .inl (y 0, nb, .inl c1)), (m2, .inl (y 0, nb, .inl c2)), (m_p, .inl (y 1, 121, .inl mpa)), (m_w, .inl (y 1, 121, .inl mwe)), (m_l, .inl (y 3, 121, .inl mli)), (m_v, .inl (y 2, 121, .inr (.inl mvo))), (m_r, .inl (y 0, 32, .inl mro)), (m_q, .inl (y 1, 260, .inl mpl))]) hfix (cX9_crc_ok l D y m1 nb c1 (0 : Int32) (4 : Int32) _ hc_6) (va_cwS 3 hts gX9_isRight_X9_crc rfl rfl rfl (by decide +kernel) ⟨Nat.le_of_ble_eq_true rfl, Nat.le_of_ble_eq_true rfl⟩) E hP hD hS [2] [0, 1, 3, 4, 5, 6, 7, 8, 9] [0, 1, 9, 2, 3, 4, 5, 6, 7, 8] rfl rfl rfl rfl (by decide) rfl rfl rfl hl.1 rfl (Nat.le_of_ble_eq_true rfl) dX9_isRight_20 ⟨Nat.zero_le _, Nat.zero_le _⟩ (fun H locs hP hD hS => ?_)
    refine W.eq (g2 := F0 m 23 ls [.int r_5, .int (r_3.toInt32)]) rfl ?_
    refine lv_icmp_ne (tgt := 49) hx hb dX9_isRight_23 (by decide) (fun c_7 => ?_) (fun c_7 => ?_)
    · have hf := ifn hf c_7
      refine lv_iconst (v := (0 : Int32)) hx hb dX9_isRight_49 (by decide) ?_
      obtain rfl := Option.some.inj hf
      exact W.zret (ty := .boolean) hx hb hr rfl (fun t ht hW => ⟨⟨(), rfl, by rw [ht]; exact hP, hD⟩, hS.F ht⟩) hS.2.2 dX9_isRight_50
    · have hf := ifp hf c_7
      refine lv_aload_n hx hb dX9_isRight_26 rfl (lv_at hl 0 rfl) ?_
      refine va_get (D := D) (ci := 8) (v := .ref mo) (C := RX9) (T := TX9) (N := 20) hx hb hts iX9 hown hK hP 0 rfl rfl 2 (by decide) (hts (.fieldLink RX9 40 "SampleTrackerModel" "bank" "[[B") (by decide +kernel)) (fun _ h9 => h9) rfl dX9_isRight_27 ?_
      refine lv_iload_n hx hb dX9_isRight_30 rfl (lv_at hl 1 rfl) ?_
      refine al_0 (hi := c_1) hx hb hK hP 1 4 rfl rfl dX9_isRight_31 ?_
      refine lv_bipush (v := (8 : Int32)) hx hb dX9_isRight_32 (by decide) ?_
      obtain ⟨h_8, hf⟩ := ibk hf
      refine va_bald hx hb hK hP 2 0 rfl rfl (ib_in h_8) dX9_isRight_34 ?_
      refine lv_sipush (v := (255 : Int32)) hx hb dX9_isRight_35 (by decide) ?_
      refine lv_iand hx hb dX9_isRight_38 ?_
      refine lv_sipush (v := (165 : Int32)) hx hb dX9_isRight_39 (by decide) ?_
      refine lv_icmp_ne (tgt := 49) hx hb dX9_isRight_42 (by decide) (fun c_9 => ?_) (fun c_9 => ?_)
      · have hf := ifn hf c_9
        refine lv_iconst (v := (0 : Int32)) hx hb dX9_isRight_49 (by decide) ?_
        obtain rfl := Option.some.inj hf
        exact W.zret (ty := .boolean) hx hb hr rfl (fun t ht hW => ⟨⟨(), rfl, by rw [ht]; exact hP, hD⟩, hS.F ht⟩) hS.2.2 dX9_isRight_50
      · have hf := ifp hf c_9
        refine lv_iconst (v := (1 : Int32)) hx hb dX9_isRight_45 (by decide) ?_
        refine lv_goto (tgt := 50) hx hb dX9_isRight_46 (by decide) ?_
        obtain rfl := Option.some.inj hf
        exact W.zret (ty := .boolean) hx hb hr rfl (fun t ht hW => ⟨⟨(), rfl, by rw [ht]; exact hP, hD⟩, hS.F ht⟩) hS.2.2 dX9_isRight_50
  · have hf := ifn hf c_1
    by_cases c_2 : p1 = 1
    · have hf := ifp hf c_2
      refine al_1 (hi := c_2) hx hb hK hP 1 4 rfl rfl dX9_isRight_5 ?_
      refine lv_iconst (v := (4 : Int32)) hx hb dX9_isRight_6 (by decide) ?_
      refine lv_iconst (v := (4 : Int32)) hx hb dX9_isRight_7 (by decide) ?_
      obtain ⟨r_10, hc_11, hf⟩ := obd hf
      refine ct_S (As := [.ref m2, .int (4 : Int32), .int (4 : Int32)]) (rest := []) (wr := [(am, .inr (8, [.int th, .int mb, .ref mo, .int us, .int me, .int rc, .int (zb dn), .int lf, .int mw, .int mf, .ref m_p, .ref m_w, .ref m_l, .ref m_v, .int ms, .int mu, .long ml, .ref m_r, .int mz, .ref m_q])), (mo, .inl (y 4, 2, .inr (.inr (.inr (.inr (outr m1 m2)))))), (m1, .inl (y 0, nb, .inl c1)), (m_p, .inl (y 1, 121, .inl mpa)), (m_w, .inl (y 1, 121, .inl mwe)), (m_l, .inl (y 3, 121, .inl mli)), (m_v, .inl (y 2, 121, .inr (.inl mvo))), (m_r, .inl (y 0, 32, .inl mro)), (m_q, .inl (y 1, 260, .inl mpl))]) (wn := [(am, .inr (8, [.int th, .int mb, .ref mo, .int us, .int me, .int rc, .int (zb dn), .int lf, .int mw, .int mf, .ref m_p, .ref m_w, .ref m_l, .ref m_v, .int ms, .int mu, .long ml, .ref m_r, .int mz, .ref m_q])), (mo, .inl (y 4, 2, .inr (.inr (.inr (.inr (outr m1 m2)))))), (m1, .inl (y 0, nb, .inl c1)), (m2, .inl (y 0, nb, .inl c2)), (m_p, .inl (y 1, 121, .inl mpa)), (m_w, .inl (y 1, 121, .inl mwe)), (m_l, .inl (y 3, 121, .inl mli)), (m_v, .inl (y 2, 121, .inr (.inl mvo))), (m_r, .inl (y 0, 32, .inl mro)), (m_q, .inl (y 1, 260, .inl mpl))]) hfix (cX9_take_ok l D y m2 nb c2 (4 : Int32) (4 : Int32) _ hc_11) (va_cwS 3 hts gX9_isRight_X9_take rfl rfl rfl (by decide +kernel) ⟨Nat.le_of_ble_eq_true rfl, Nat.le_of_ble_eq_true rfl⟩) E hP hD hS [3] [0, 1, 2, 4, 5, 6, 7, 8, 9] [0, 1, 2, 9, 3, 4, 5, 6, 7, 8] rfl rfl rfl rfl (by decide) rfl rfl rfl hl.1 rfl (Nat.le_of_ble_eq_true rfl) dX9_isRight_8 ⟨Nat.zero_le _, Nat.zero_le _⟩ (fun H locs hP hD hS => ?_)
      refine W.eq (g2 := F0 m 11 ls [.long r_10]) rfl ?_
      refine lv_l2i (v := (r_10.toInt32)) hx hb dX9_isRight_11 rfl ?_
      refine lv_aload_n hx hb dX9_isRight_12 rfl (lv_at hl 0 rfl) ?_
      refine va_get (D := D) (ci := 8) (v := .ref mo) (C := RX9) (T := TX9) (N := 20) hx hb hts iX9 hown hK hP 0 rfl rfl 2 (by decide) (hts (.fieldLink RX9 40 "SampleTrackerModel" "bank" "[[B") (by decide +kernel)) (fun _ h9 => h9) rfl dX9_isRight_13 ?_
      refine lv_iload_n hx hb dX9_isRight_16 rfl (lv_at hl 1 rfl) ?_
      refine al_1 (hi := c_2) hx hb hK hP 1 4 rfl rfl dX9_isRight_17 ?_
      refine lv_iconst (v := (0 : Int32)) hx hb dX9_isRight_18 (by decide) ?_
      refine lv_iconst (v := (4 : Int32)) hx hb dX9_isRight_19 (by decide) ?_
      obtain ⟨r_12, hc_13, hf⟩ := obd hf
      refine ct_S (As := [.ref m2, .int (0 : Int32), .int (4 : Int32)]) (rest := [.int (r_10.toInt32)]) (wr := [(am, .inr (8, [.int th, .int mb, .ref mo, .int us, .int me, .int rc, .int (zb dn), .int lf, .int mw, .int mf, .ref m_p, .ref m_w, .ref m_l, .ref m_v, .int ms, .int mu, .long ml, .ref m_r, .int mz, .ref m_q])), (mo, .inl (y 4, 2, .inr (.inr (.inr (.inr (outr m1 m2)))))), (m1, .inl (y 0, nb, .inl c1)), (m_p, .inl (y 1, 121, .inl mpa)), (m_w, .inl (y 1, 121, .inl mwe)), (m_l, .inl (y 3, 121, .inl mli)), (m_v, .inl (y 2, 121, .inr (.inl mvo))), (m_r, .inl (y 0, 32, .inl mro)), (m_q, .inl (y 1, 260, .inl mpl))]) (wn := [(am, .inr (8, [.int th, .int mb, .ref mo, .int us, .int me, .int rc, .int (zb dn), .int lf, .int mw, .int mf, .ref m_p, .ref m_w, .ref m_l, .ref m_v, .int ms, .int mu, .long ml, .ref m_r, .int mz, .ref m_q])), (mo, .inl (y 4, 2, .inr (.inr (.inr (.inr (outr m1 m2)))))), (m1, .inl (y 0, nb, .inl c1)), (m2, .inl (y 0, nb, .inl c2)), (m_p, .inl (y 1, 121, .inl mpa)), (m_w, .inl (y 1, 121, .inl mwe)), (m_l, .inl (y 3, 121, .inl mli)), (m_v, .inl (y 2, 121, .inr (.inl mvo))), (m_r, .inl (y 0, 32, .inl mro)), (m_q, .inl (y 1, 260, .inl mpl))]) hfix (cX9_crc_ok l D y m2 nb c2 (0 : Int32) (4 : Int32) _ hc_13) (va_cwS 3 hts gX9_isRight_X9_crc rfl rfl rfl (by decide +kernel) ⟨Nat.le_of_ble_eq_true rfl, Nat.le_of_ble_eq_true rfl⟩) E hP hD hS [3] [0, 1, 2, 4, 5, 6, 7, 8, 9] [0, 1, 2, 9, 3, 4, 5, 6, 7, 8] rfl rfl rfl rfl (by decide) rfl rfl rfl hl.1 rfl (Nat.le_of_ble_eq_true rfl) dX9_isRight_20 ⟨Nat.zero_le _, Nat.zero_le _⟩ (fun H locs hP hD hS => ?_)
      refine W.eq (g2 := F0 m 23 ls [.int r_12, .int (r_10.toInt32)]) rfl ?_
      refine lv_icmp_ne (tgt := 49) hx hb dX9_isRight_23 (by decide) (fun c_14 => ?_) (fun c_14 => ?_)
      · have hf := ifn hf c_14
        refine lv_iconst (v := (0 : Int32)) hx hb dX9_isRight_49 (by decide) ?_
        obtain rfl := Option.some.inj hf
        exact W.zret (ty := .boolean) hx hb hr rfl (fun t ht hW => ⟨⟨(), rfl, by rw [ht]; exact hP, hD⟩, hS.F ht⟩) hS.2.2 dX9_isRight_50
      · have hf := ifp hf c_14
        refine lv_aload_n hx hb dX9_isRight_26 rfl (lv_at hl 0 rfl) ?_
        refine va_get (D := D) (ci := 8) (v := .ref mo) (C := RX9) (T := TX9) (N := 20) hx hb hts iX9 hown hK hP 0 rfl rfl 2 (by decide) (hts (.fieldLink RX9 40 "SampleTrackerModel" "bank" "[[B") (by decide +kernel)) (fun _ h9 => h9) rfl dX9_isRight_27 ?_
        refine lv_iload_n hx hb dX9_isRight_30 rfl (lv_at hl 1 rfl) ?_
        refine al_1 (hi := c_2) hx hb hK hP 1 4 rfl rfl dX9_isRight_31 ?_
        refine lv_bipush (v := (8 : Int32)) hx hb dX9_isRight_32 (by decide) ?_
        obtain ⟨h_15, hf⟩ := ibk hf
        refine va_bald hx hb hK hP 3 0 rfl rfl (ib_in h_15) dX9_isRight_34 ?_
        refine lv_sipush (v := (255 : Int32)) hx hb dX9_isRight_35 (by decide) ?_
        refine lv_iand hx hb dX9_isRight_38 ?_
        refine lv_sipush (v := (165 : Int32)) hx hb dX9_isRight_39 (by decide) ?_
        refine lv_icmp_ne (tgt := 49) hx hb dX9_isRight_42 (by decide) (fun c_16 => ?_) (fun c_16 => ?_)
        · have hf := ifn hf c_16
          refine lv_iconst (v := (0 : Int32)) hx hb dX9_isRight_49 (by decide) ?_
          obtain rfl := Option.some.inj hf
          exact W.zret (ty := .boolean) hx hb hr rfl (fun t ht hW => ⟨⟨(), rfl, by rw [ht]; exact hP, hD⟩, hS.F ht⟩) hS.2.2 dX9_isRight_50
        · have hf := ifp hf c_16
          refine lv_iconst (v := (1 : Int32)) hx hb dX9_isRight_45 (by decide) ?_
          refine lv_goto (tgt := 50) hx hb dX9_isRight_46 (by decide) ?_
          obtain rfl := Option.some.inj hf
          exact W.zret (ty := .boolean) hx hb hr rfl (fun t ht hW => ⟨⟨(), rfl, by rw [ht]; exact hP, hD⟩, hS.F ht⟩) hS.2.2 dX9_isRight_50
    · have hf := ifn hf c_2
      exact absurd hf (fun q => by cases q)

def fX9_generation (nb : Nat) (c1 : Nat → Int32) (c2 : Nat → Int32) (p1 : Int32) : Option (Int64) := (if p1 = 0 then ((fX9_take nb c1 (0 : Int32) (4 : Int32)).bind fun r_3 => some r_3) else if p1 = 1 then ((fX9_take nb c2 (0 : Int32) (4 : Int32)).bind fun r_5 => some r_5) else none)

set_option maxHeartbeats 4000000 in
set_option maxRecDepth 100000 in
theorem cX9_generation_ok (l : Launch) (D : va_G) (y : Nat → ClassId) (am : Nat) (mo : Nat) (m1 : Nat) (m2 : Nat) (m_p : Nat) (m_w : Nat) (m_l : Nat) (m_v : Nat) (m_r : Nat) (m_q : Nat) (nb : Nat) (th : Int32) (mb : Int32) (us : Int32) (me : Int32) (rc : Int32) (dn : Bool) (lf : Int32) (mw : Int32) (mf : Int32) (ms : Int32) (mu : Int32) (ml : Int64) (mz : Int32) (c1 : Nat → Int32) (c2 : Nat → Int32) (mpa : Nat → Int32) (mwe : Nat → Int32) (mli : Nat → Int32) (mvo : Nat → Int64) (mro : Nat → Int32) (mpl : Nat → Int32) (p1 : Int32) (res : Int64) (hf : fX9_generation nb c1 c2 p1 = some res) : CT l D y yX9_generation wsX9_generation ({ frames := 1, cells := 0, slots := 0, locals := 25 } : Room) [.ref am, .int p1] [(am, .inr (8, [.int th, .int mb, .ref mo, .int us, .int me, .int rc, .int (zb dn), .int lf, .int mw, .int mf, .ref m_p, .ref m_w, .ref m_l, .ref m_v, .int ms, .int mu, .long ml, .ref m_r, .int mz, .ref m_q])), (mo, .inl (y 4, 2, .inr (.inr (.inr (.inr (outr m1 m2)))))), (m1, .inl (y 0, nb, .inl c1)), (m2, .inl (y 0, nb, .inl c2)), (m_p, .inl (y 1, 121, .inl mpa)), (m_w, .inl (y 1, 121, .inl mwe)), (m_l, .inl (y 3, 121, .inl mli)), (m_v, .inl (y 2, 121, .inr (.inl mvo))), (m_r, .inl (y 0, 32, .inl mro)), (m_q, .inl (y 1, 260, .inl mpl))] (some (.long res)) [(am, .inr (8, [.int th, .int mb, .ref mo, .int us, .int me, .int rc, .int (zb dn), .int lf, .int mw, .int mf, .ref m_p, .ref m_w, .ref m_l, .ref m_v, .int ms, .int mu, .long ml, .ref m_r, .int mz, .ref m_q])), (mo, .inl (y 4, 2, .inr (.inr (.inr (.inr (outr m1 m2)))))), (m1, .inl (y 0, nb, .inl c1)), (m2, .inl (y 0, nb, .inl c2)), (m_p, .inl (y 1, 121, .inl mpa)), (m_w, .inl (y 1, 121, .inl mwe)), (m_l, .inl (y 3, 121, .inl mli)), (m_v, .inl (y 2, 121, .inr (.inl mvo))), (m_r, .inl (y 0, 32, .inl mro)), (m_q, .inl (y 1, 260, .inl mpl))] := by
  intro sz
  refine Met.ofW (cc := cX9_generation) (maxL := 2) (ret := (some .long)) (by decide) rfl ?_
  intro p e s m args below meth c s₁ B hml hv
  obtain ⟨rfl, hsz, hP, hK, hD0, hst, hno⟩ := hv
  have hx := B.exec
  have hb := B.bytes
  have hr := B.returns
  have hts := atoms_spec (ws := wsX9_generation) B.pre
  have hown : s.vm.findClass RX9 = some m.cls := findClass_of_methodNamed B.named
  have hlocks := B.notSynchronized
  subst hsz
  have hD := hD0.self (sz := s.heap.size)
  generalize hAe : va_A [(am, .inr (8, [.int th, .int mb, .ref mo, .int us, .int me, .int rc, .int (zb dn), .int lf, .int mw, .int mf, .ref m_p, .ref m_w, .ref m_l, .ref m_v, .int ms, .int mu, .long ml, .ref m_r, .int mz, .ref m_q])), (mo, .inl (y 4, 2, .inr (.inr (.inr (.inr (outr m1 m2)))))), (m1, .inl (y 0, nb, .inl c1)), (m2, .inl (y 0, nb, .inl c2)), (m_p, .inl (y 1, 121, .inl mpa)), (m_w, .inl (y 1, 121, .inl mwe)), (m_l, .inl (y 3, 121, .inl mli)), (m_v, .inl (y 2, 121, .inr (.inl mvo))), (m_r, .inl (y 0, 32, .inl mro)), (m_q, .inl (y 1, 260, .inl mpl))] s.heap.size = A at hD hst ⊢
  have hA : ∀ q : Nat, s.heap.size ≤ q → A q := fun q h => by rw [← hAe]; exact Or.inr h
  have hS : va_S A s.heap s.heap [] := va_S.rf
  have E : Ev D y A s := ⟨hK, hst, hno, hA⟩
  have hfix : CallFix p m c cX9_generation 2 s _ wsX9_generation RX9 := ⟨hx, hb, hml, hown, hts⟩
  have hP : va_P D vwCl [(am, .inr (8, [.int th, .int mb, .ref mo, .int us, .int me, .int rc, .int (zb dn), .int lf, .int mw, .int mf, .ref m_p, .ref m_w, .ref m_l, .ref m_v, .int ms, .int mu, .long ml, .ref m_r, .int mz, .ref m_q])), (mo, .inl (y 4, 2, .inr (.inr (.inr (.inr (outr m1 m2)))))), (m1, .inl (y 0, nb, .inl c1)), (m2, .inl (y 0, nb, .inl c2)), (m_p, .inl (y 1, 121, .inl mpa)), (m_w, .inl (y 1, 121, .inl mwe)), (m_l, .inl (y 3, 121, .inl mli)), (m_v, .inl (y 2, 121, .inr (.inl mvo))), (m_r, .inl (y 0, 32, .inl mro)), (m_q, .inl (y 1, 260, .inl mpl))] s.heap := hP
  have iX9 : ∀ w ∈ wsX90, w ∈ wsX9_generation := by decide +kernel
  have hl := lv_entry ([.ref am, .int p1]) (n := 2) (Nat.le_of_ble_eq_true rfl)
  rw [lg_entry_eq]
  generalize (lg_sl ([.ref am, .int p1]) ++ List.replicate (2 - (lg_sl ([.ref am, .int p1])).length) Slot.unset).toArray = ls at hl ⊢
  have hl : lv_has ls 2 [(0, .ref am), (1, .int p1)] := hl
  unfold fX9_generation at hf
  refine lv_aload_n hx hb dX9_generation_0 rfl (lv_at hl 0 rfl) ?_
  refine va_get (D := D) (ci := 8) (v := .ref mo) (C := RX9) (T := TX9) (N := 20) hx hb hts iX9 hown hK hP 0 rfl rfl 2 (by decide) (hts (.fieldLink RX9 40 "SampleTrackerModel" "bank" "[[B") (by decide +kernel)) (fun _ h9 => h9) rfl dX9_generation_1 ?_
  refine lv_iload_n hx hb dX9_generation_4 rfl (lv_at hl 1 rfl) ?_
  by_cases c_1 : p1 = 0
  · have hf := ifp hf c_1
    refine al_0 (hi := c_1) hx hb hK hP 1 4 rfl rfl dX9_generation_5 ?_
    refine lv_iconst (v := (0 : Int32)) hx hb dX9_generation_6 (by decide) ?_
    refine lv_iconst (v := (4 : Int32)) hx hb dX9_generation_7 (by decide) ?_
    obtain ⟨r_3, hc_4, hf⟩ := obd hf
    refine ct_S (As := [.ref m1, .int (0 : Int32), .int (4 : Int32)]) (rest := []) (wr := [(am, .inr (8, [.int th, .int mb, .ref mo, .int us, .int me, .int rc, .int (zb dn), .int lf, .int mw, .int mf, .ref m_p, .ref m_w, .ref m_l, .ref m_v, .int ms, .int mu, .long ml, .ref m_r, .int mz, .ref m_q])), (mo, .inl (y 4, 2, .inr (.inr (.inr (.inr (outr m1 m2)))))), (m2, .inl (y 0, nb, .inl c2)), (m_p, .inl (y 1, 121, .inl mpa)), (m_w, .inl (y 1, 121, .inl mwe)), (m_l, .inl (y 3, 121, .inl mli)), (m_v, .inl (y 2, 121, .inr (.inl mvo))), (m_r, .inl (y 0, 32, .inl mro)), (m_q, .inl (y 1, 260, .inl mpl))]) (wn := [(am, .inr (8, [.int th, .int mb, .ref mo, .int us, .int me, .int rc, .int (zb dn), .int lf, .int mw, .int mf, .ref m_p, .ref m_w, .ref m_l, .ref m_v, .int ms, .int mu, .long ml, .ref m_r, .int mz, .ref m_q])), (mo, .inl (y 4, 2, .inr (.inr (.inr (.inr (outr m1 m2)))))), (m1, .inl (y 0, nb, .inl c1)), (m2, .inl (y 0, nb, .inl c2)), (m_p, .inl (y 1, 121, .inl mpa)), (m_w, .inl (y 1, 121, .inl mwe)), (m_l, .inl (y 3, 121, .inl mli)), (m_v, .inl (y 2, 121, .inr (.inl mvo))), (m_r, .inl (y 0, 32, .inl mro)), (m_q, .inl (y 1, 260, .inl mpl))]) hfix (cX9_take_ok l D y m1 nb c1 (0 : Int32) (4 : Int32) _ hc_4) (va_cwS 3 hts gX9_generation_X9_take rfl rfl rfl (by decide +kernel) ⟨Nat.le_of_ble_eq_true rfl, Nat.le_of_ble_eq_true rfl⟩) E hP hD hS [2] [0, 1, 3, 4, 5, 6, 7, 8, 9] [0, 1, 9, 2, 3, 4, 5, 6, 7, 8] rfl rfl rfl rfl (by decide) rfl rfl rfl hl.1 rfl (Nat.le_of_ble_eq_true rfl) dX9_generation_8 ⟨Nat.zero_le _, Nat.zero_le _⟩ (fun H locs hP hD hS => ?_)
    refine W.eq (g2 := F0 m 11 ls [.long r_3]) rfl ?_
    obtain rfl := Option.some.inj hf
    exact W.lret hx hb hr (fun t ht hW => ⟨⟨(), rfl, by rw [ht]; exact hP, hD⟩, hS.F ht⟩) hS.2.2 dX9_generation_11
  · have hf := ifn hf c_1
    by_cases c_2 : p1 = 1
    · have hf := ifp hf c_2
      refine al_1 (hi := c_2) hx hb hK hP 1 4 rfl rfl dX9_generation_5 ?_
      refine lv_iconst (v := (0 : Int32)) hx hb dX9_generation_6 (by decide) ?_
      refine lv_iconst (v := (4 : Int32)) hx hb dX9_generation_7 (by decide) ?_
      obtain ⟨r_5, hc_6, hf⟩ := obd hf
      refine ct_S (As := [.ref m2, .int (0 : Int32), .int (4 : Int32)]) (rest := []) (wr := [(am, .inr (8, [.int th, .int mb, .ref mo, .int us, .int me, .int rc, .int (zb dn), .int lf, .int mw, .int mf, .ref m_p, .ref m_w, .ref m_l, .ref m_v, .int ms, .int mu, .long ml, .ref m_r, .int mz, .ref m_q])), (mo, .inl (y 4, 2, .inr (.inr (.inr (.inr (outr m1 m2)))))), (m1, .inl (y 0, nb, .inl c1)), (m_p, .inl (y 1, 121, .inl mpa)), (m_w, .inl (y 1, 121, .inl mwe)), (m_l, .inl (y 3, 121, .inl mli)), (m_v, .inl (y 2, 121, .inr (.inl mvo))), (m_r, .inl (y 0, 32, .inl mro)), (m_q, .inl (y 1, 260, .inl mpl))]) (wn := [(am, .inr (8, [.int th, .int mb, .ref mo, .int us, .int me, .int rc, .int (zb dn), .int lf, .int mw, .int mf, .ref m_p, .ref m_w, .ref m_l, .ref m_v, .int ms, .int mu, .long ml, .ref m_r, .int mz, .ref m_q])), (mo, .inl (y 4, 2, .inr (.inr (.inr (.inr (outr m1 m2)))))), (m1, .inl (y 0, nb, .inl c1)), (m2, .inl (y 0, nb, .inl c2)), (m_p, .inl (y 1, 121, .inl mpa)), (m_w, .inl (y 1, 121, .inl mwe)), (m_l, .inl (y 3, 121, .inl mli)), (m_v, .inl (y 2, 121, .inr (.inl mvo))), (m_r, .inl (y 0, 32, .inl mro)), (m_q, .inl (y 1, 260, .inl mpl))]) hfix (cX9_take_ok l D y m2 nb c2 (0 : Int32) (4 : Int32) _ hc_6) (va_cwS 3 hts gX9_generation_X9_take rfl rfl rfl (by decide +kernel) ⟨Nat.le_of_ble_eq_true rfl, Nat.le_of_ble_eq_true rfl⟩) E hP hD hS [3] [0, 1, 2, 4, 5, 6, 7, 8, 9] [0, 1, 2, 9, 3, 4, 5, 6, 7, 8] rfl rfl rfl rfl (by decide) rfl rfl rfl hl.1 rfl (Nat.le_of_ble_eq_true rfl) dX9_generation_8 ⟨Nat.zero_le _, Nat.zero_le _⟩ (fun H locs hP hD hS => ?_)
      refine W.eq (g2 := F0 m 11 ls [.long r_5]) rfl ?_
      obtain rfl := Option.some.inj hf
      exact W.lret hx hb hr (fun t ht hW => ⟨⟨(), rfl, by rw [ht]; exact hP, hD⟩, hS.F ht⟩) hS.2.2 dX9_generation_11
    · have hf := ifn hf c_2
      exact absurd hf (fun q => by cases q)

def fX9_whole (nb : Nat) (mb : Int32) (us : Int32) (c1 : Nat → Int32) (c2 : Nat → Int32) (p1 : Int32) : Option (Int32) := (if us = 0 then (if (p1 + (2 : Int32)) ≤ mb then ((fX9_take nb c1 p1 (2 : Int32)).bind fun r_4 => (if (r_4.toInt32) < (8 : Int32) then some (0 : Int32) else (if (p1 + (r_4.toInt32)) ≤ mb then ((fX9_take nb c1 ((p1 + (r_4.toInt32)) - (5 : Int32)) (4 : Int32)).bind fun r_8 => ((fX9_crc nb c1 p1 ((p1 + (r_4.toInt32)) - (5 : Int32))).bind fun r_10 => (if (r_8.toInt32) = r_10 then (if (ib ((p1 + (r_4.toInt32)) - (1 : Int32)) nb) = true then (if ((c1 ((p1 + (r_4.toInt32)) - (1 : Int32)).toNatClampNeg) &&& (255 : Int32)) = (165 : Int32) then some (r_4.toInt32) else some (0 : Int32)) else none) else some (0 : Int32)))) else some (0 : Int32)))) else some (0 : Int32)) else if us = 1 then (if (p1 + (2 : Int32)) ≤ mb then ((fX9_take nb c2 p1 (2 : Int32)).bind fun r_16 => (if (r_16.toInt32) < (8 : Int32) then some (0 : Int32) else (if (p1 + (r_16.toInt32)) ≤ mb then ((fX9_take nb c2 ((p1 + (r_16.toInt32)) - (5 : Int32)) (4 : Int32)).bind fun r_20 => ((fX9_crc nb c2 p1 ((p1 + (r_16.toInt32)) - (5 : Int32))).bind fun r_22 => (if (r_20.toInt32) = r_22 then (if (ib ((p1 + (r_16.toInt32)) - (1 : Int32)) nb) = true then (if ((c2 ((p1 + (r_16.toInt32)) - (1 : Int32)).toNatClampNeg) &&& (255 : Int32)) = (165 : Int32) then some (r_16.toInt32) else some (0 : Int32)) else none) else some (0 : Int32)))) else some (0 : Int32)))) else some (0 : Int32)) else none)

set_option maxHeartbeats 4000000 in
set_option maxRecDepth 100000 in
theorem cX9_whole_ok (l : Launch) (D : va_G) (y : Nat → ClassId) (am : Nat) (mo : Nat) (m1 : Nat) (m2 : Nat) (m_p : Nat) (m_w : Nat) (m_l : Nat) (m_v : Nat) (m_r : Nat) (m_q : Nat) (nb : Nat) (th : Int32) (mb : Int32) (us : Int32) (me : Int32) (rc : Int32) (dn : Bool) (lf : Int32) (mw : Int32) (mf : Int32) (ms : Int32) (mu : Int32) (ml : Int64) (mz : Int32) (c1 : Nat → Int32) (c2 : Nat → Int32) (mpa : Nat → Int32) (mwe : Nat → Int32) (mli : Nat → Int32) (mvo : Nat → Int64) (mro : Nat → Int32) (mpl : Nat → Int32) (p1 : Int32) (res : Int32) (hf : fX9_whole nb mb us c1 c2 p1 = some res) : CT l D y yX9_whole wsX9_whole ({ frames := 1, cells := 0, slots := 0, locals := 25 } : Room) [.ref am, .int p1] [(am, .inr (8, [.int th, .int mb, .ref mo, .int us, .int me, .int rc, .int (zb dn), .int lf, .int mw, .int mf, .ref m_p, .ref m_w, .ref m_l, .ref m_v, .int ms, .int mu, .long ml, .ref m_r, .int mz, .ref m_q])), (mo, .inl (y 4, 2, .inr (.inr (.inr (.inr (outr m1 m2)))))), (m1, .inl (y 0, nb, .inl c1)), (m2, .inl (y 0, nb, .inl c2)), (m_p, .inl (y 1, 121, .inl mpa)), (m_w, .inl (y 1, 121, .inl mwe)), (m_l, .inl (y 3, 121, .inl mli)), (m_v, .inl (y 2, 121, .inr (.inl mvo))), (m_r, .inl (y 0, 32, .inl mro)), (m_q, .inl (y 1, 260, .inl mpl))] (some (.int res)) [(am, .inr (8, [.int th, .int mb, .ref mo, .int us, .int me, .int rc, .int (zb dn), .int lf, .int mw, .int mf, .ref m_p, .ref m_w, .ref m_l, .ref m_v, .int ms, .int mu, .long ml, .ref m_r, .int mz, .ref m_q])), (mo, .inl (y 4, 2, .inr (.inr (.inr (.inr (outr m1 m2)))))), (m1, .inl (y 0, nb, .inl c1)), (m2, .inl (y 0, nb, .inl c2)), (m_p, .inl (y 1, 121, .inl mpa)), (m_w, .inl (y 1, 121, .inl mwe)), (m_l, .inl (y 3, 121, .inl mli)), (m_v, .inl (y 2, 121, .inr (.inl mvo))), (m_r, .inl (y 0, 32, .inl mro)), (m_q, .inl (y 1, 260, .inl mpl))] := by
  intro sz
  refine Met.ofW (cc := cX9_whole) (maxL := 4) (ret := (some .int)) (by decide) rfl ?_
  intro p e s m args below meth c s₁ B hml hv
  obtain ⟨rfl, hsz, hP, hK, hD0, hst, hno⟩ := hv
  have hx := B.exec
  have hb := B.bytes
  have hr := B.returns
  have hts := atoms_spec (ws := wsX9_whole) B.pre
  have hown : s.vm.findClass RX9 = some m.cls := findClass_of_methodNamed B.named
  have hlocks := B.notSynchronized
  subst hsz
  have hD := hD0.self (sz := s.heap.size)
  generalize hAe : va_A [(am, .inr (8, [.int th, .int mb, .ref mo, .int us, .int me, .int rc, .int (zb dn), .int lf, .int mw, .int mf, .ref m_p, .ref m_w, .ref m_l, .ref m_v, .int ms, .int mu, .long ml, .ref m_r, .int mz, .ref m_q])), (mo, .inl (y 4, 2, .inr (.inr (.inr (.inr (outr m1 m2)))))), (m1, .inl (y 0, nb, .inl c1)), (m2, .inl (y 0, nb, .inl c2)), (m_p, .inl (y 1, 121, .inl mpa)), (m_w, .inl (y 1, 121, .inl mwe)), (m_l, .inl (y 3, 121, .inl mli)), (m_v, .inl (y 2, 121, .inr (.inl mvo))), (m_r, .inl (y 0, 32, .inl mro)), (m_q, .inl (y 1, 260, .inl mpl))] s.heap.size = A at hD hst ⊢
  have hA : ∀ q : Nat, s.heap.size ≤ q → A q := fun q h => by rw [← hAe]; exact Or.inr h
  have hS : va_S A s.heap s.heap [] := va_S.rf
  have E : Ev D y A s := ⟨hK, hst, hno, hA⟩
  have hfix : CallFix p m c cX9_whole 4 s _ wsX9_whole RX9 := ⟨hx, hb, hml, hown, hts⟩
  have hP : va_P D vwCl [(am, .inr (8, [.int th, .int mb, .ref mo, .int us, .int me, .int rc, .int (zb dn), .int lf, .int mw, .int mf, .ref m_p, .ref m_w, .ref m_l, .ref m_v, .int ms, .int mu, .long ml, .ref m_r, .int mz, .ref m_q])), (mo, .inl (y 4, 2, .inr (.inr (.inr (.inr (outr m1 m2)))))), (m1, .inl (y 0, nb, .inl c1)), (m2, .inl (y 0, nb, .inl c2)), (m_p, .inl (y 1, 121, .inl mpa)), (m_w, .inl (y 1, 121, .inl mwe)), (m_l, .inl (y 3, 121, .inl mli)), (m_v, .inl (y 2, 121, .inr (.inl mvo))), (m_r, .inl (y 0, 32, .inl mro)), (m_q, .inl (y 1, 260, .inl mpl))] s.heap := hP
  have iX9 : ∀ w ∈ wsX90, w ∈ wsX9_whole := by decide +kernel
  have hl := lv_entry ([.ref am, .int p1]) (n := 4) (Nat.le_of_ble_eq_true rfl)
  rw [lg_entry_eq]
  generalize (lg_sl ([.ref am, .int p1]) ++ List.replicate (4 - (lg_sl ([.ref am, .int p1])).length) Slot.unset).toArray = ls at hl ⊢
  have hl : lv_has ls 4 [(0, .ref am), (1, .int p1)] := hl
  unfold fX9_whole at hf
  refine lv_aload_n hx hb dX9_whole_0 rfl (lv_at hl 0 rfl) ?_
  refine va_get (D := D) (ci := 8) (v := .ref mo) (C := RX9) (T := TX9) (N := 20) hx hb hts iX9 hown hK hP 0 rfl rfl 2 (by decide) (hts (.fieldLink RX9 40 "SampleTrackerModel" "bank" "[[B") (by decide +kernel)) (fun _ h9 => h9) rfl dX9_whole_1 ?_
  refine lv_aload_n hx hb dX9_whole_4 rfl (lv_at hl 0 rfl) ?_
  refine va_get (D := D) (ci := 8) (v := .int us) (C := RX9) (T := TX9) (N := 20) hx hb hts iX9 hown hK hP 0 rfl rfl 3 (by decide) (hts (.fieldLink RX9 100 "SampleTrackerModel" "use" "I") (by decide +kernel)) (fun _ h9 => h9) rfl dX9_whole_5 ?_
  by_cases c_1 : us = 0
  · have hf := ifp hf c_1
    refine al_0 (hi := c_1) hx hb hK hP 1 4 rfl rfl dX9_whole_8 ?_
    refine lv_astore_n (lv' := [(2, .ref m1), (0, .ref am), (1, .int p1)]) hx hb dX9_whole_9 rfl hl (by decide) rfl (fun ls hl => ?_)
    refine lv_iload_n hx hb dX9_whole_10 rfl (lv_at hl 2 rfl) ?_
    refine lv_iconst (v := (2 : Int32)) hx hb dX9_whole_11 (by decide) ?_
    refine lv_iadd hx hb dX9_whole_12 ?_
    refine lv_aload_n hx hb dX9_whole_13 rfl (lv_at hl 1 rfl) ?_
    refine va_get (D := D) (ci := 8) (v := .int mb) (C := RX9) (T := TX9) (N := 20) hx hb hts iX9 hown hK hP 0 rfl rfl 1 (by decide) (hts (.fieldLink RX9 35 "SampleTrackerModel" "bytes" "I") (by decide +kernel)) (fun _ h9 => h9) rfl dX9_whole_14 ?_
    refine lv_icmp_le (tgt := 22) hx hb dX9_whole_17 (by decide) (fun c_3 => ?_) (fun c_3 => ?_)
    · have hf := ifp hf c_3
      refine lv_aload_n hx hb dX9_whole_22 rfl (lv_at hl 0 rfl) ?_
      refine lv_iload_n hx hb dX9_whole_23 rfl (lv_at hl 2 rfl) ?_
      refine lv_iconst (v := (2 : Int32)) hx hb dX9_whole_24 (by decide) ?_
      obtain ⟨r_4, hc_5, hf⟩ := obd hf
      refine ct_S (As := [.ref m1, .int p1, .int (2 : Int32)]) (rest := []) (wr := [(am, .inr (8, [.int th, .int mb, .ref mo, .int us, .int me, .int rc, .int (zb dn), .int lf, .int mw, .int mf, .ref m_p, .ref m_w, .ref m_l, .ref m_v, .int ms, .int mu, .long ml, .ref m_r, .int mz, .ref m_q])), (mo, .inl (y 4, 2, .inr (.inr (.inr (.inr (outr m1 m2)))))), (m2, .inl (y 0, nb, .inl c2)), (m_p, .inl (y 1, 121, .inl mpa)), (m_w, .inl (y 1, 121, .inl mwe)), (m_l, .inl (y 3, 121, .inl mli)), (m_v, .inl (y 2, 121, .inr (.inl mvo))), (m_r, .inl (y 0, 32, .inl mro)), (m_q, .inl (y 1, 260, .inl mpl))]) (wn := [(am, .inr (8, [.int th, .int mb, .ref mo, .int us, .int me, .int rc, .int (zb dn), .int lf, .int mw, .int mf, .ref m_p, .ref m_w, .ref m_l, .ref m_v, .int ms, .int mu, .long ml, .ref m_r, .int mz, .ref m_q])), (mo, .inl (y 4, 2, .inr (.inr (.inr (.inr (outr m1 m2)))))), (m1, .inl (y 0, nb, .inl c1)), (m2, .inl (y 0, nb, .inl c2)), (m_p, .inl (y 1, 121, .inl mpa)), (m_w, .inl (y 1, 121, .inl mwe)), (m_l, .inl (y 3, 121, .inl mli)), (m_v, .inl (y 2, 121, .inr (.inl mvo))), (m_r, .inl (y 0, 32, .inl mro)), (m_q, .inl (y 1, 260, .inl mpl))]) hfix (cX9_take_ok l D y m1 nb c1 p1 (2 : Int32) _ hc_5) (va_cwS 3 hts gX9_whole_X9_take rfl rfl rfl (by decide +kernel) ⟨Nat.le_of_ble_eq_true rfl, Nat.le_of_ble_eq_true rfl⟩) E hP hD hS [2] [0, 1, 3, 4, 5, 6, 7, 8, 9] [0, 1, 9, 2, 3, 4, 5, 6, 7, 8] rfl rfl rfl rfl (by decide) rfl rfl rfl hl.1 rfl (Nat.le_of_ble_eq_true rfl) dX9_whole_25 ⟨Nat.zero_le _, Nat.zero_le _⟩ (fun H locs hP hD hS => ?_)
      refine W.eq (g2 := F0 m 28 ls [.long r_4]) rfl ?_
      refine lv_l2i (v := (r_4.toInt32)) hx hb dX9_whole_28 rfl ?_
      refine lv_istore_n (lv' := [(3, .int (r_4.toInt32)), (2, .ref m1), (0, .ref am), (1, .int p1)]) hx hb dX9_whole_29 rfl hl (by decide) rfl (fun ls hl => ?_)
      refine lv_iload_n hx hb dX9_whole_30 rfl (lv_at hl 0 rfl) ?_
      refine lv_bipush (v := (8 : Int32)) hx hb dX9_whole_31 (by decide) ?_
      refine lv_icmp_lt (tgt := 46) hx hb dX9_whole_33 (by decide) (fun c_6 => ?_) (fun c_6 => ?_)
      · have hf := ifp hf c_6
        refine lv_iconst (v := (0 : Int32)) hx hb dX9_whole_46 (by decide) ?_
        obtain rfl := Option.some.inj hf
        exact W.iret hx hb hr (fun t ht hW => ⟨⟨(), rfl, by rw [ht]; exact hP, hD⟩, hS.F ht⟩) hS.2.2 dX9_whole_47
      · have hf := ifn hf c_6
        refine lv_iload_n hx hb dX9_whole_36 rfl (lv_at hl 3 rfl) ?_
        refine lv_iload_n hx hb dX9_whole_37 rfl (lv_at hl 0 rfl) ?_
        refine lv_iadd hx hb dX9_whole_38 ?_
        refine lv_aload_n hx hb dX9_whole_39 rfl (lv_at hl 2 rfl) ?_
        refine va_get (D := D) (ci := 8) (v := .int mb) (C := RX9) (T := TX9) (N := 20) hx hb hts iX9 hown hK hP 0 rfl rfl 1 (by decide) (hts (.fieldLink RX9 35 "SampleTrackerModel" "bytes" "I") (by decide +kernel)) (fun _ h9 => h9) rfl dX9_whole_40 ?_
        refine lv_icmp_le (tgt := 48) hx hb dX9_whole_43 (by decide) (fun c_7 => ?_) (fun c_7 => ?_)
        · have hf := ifp hf c_7
          refine lv_aload_n hx hb dX9_whole_48 rfl (lv_at hl 1 rfl) ?_
          refine lv_iload_n hx hb dX9_whole_49 rfl (lv_at hl 3 rfl) ?_
          refine lv_iload_n hx hb dX9_whole_50 rfl (lv_at hl 0 rfl) ?_
          refine lv_iadd hx hb dX9_whole_51 ?_
          refine lv_iconst (v := (5 : Int32)) hx hb dX9_whole_52 (by decide) ?_
          refine lv_isub hx hb dX9_whole_53 ?_
          refine lv_iconst (v := (4 : Int32)) hx hb dX9_whole_54 (by decide) ?_
          obtain ⟨r_8, hc_9, hf⟩ := obd hf
          refine ct_S (As := [.ref m1, .int ((p1 + (r_4.toInt32)) - (5 : Int32)), .int (4 : Int32)]) (rest := []) (wr := [(am, .inr (8, [.int th, .int mb, .ref mo, .int us, .int me, .int rc, .int (zb dn), .int lf, .int mw, .int mf, .ref m_p, .ref m_w, .ref m_l, .ref m_v, .int ms, .int mu, .long ml, .ref m_r, .int mz, .ref m_q])), (mo, .inl (y 4, 2, .inr (.inr (.inr (.inr (outr m1 m2)))))), (m2, .inl (y 0, nb, .inl c2)), (m_p, .inl (y 1, 121, .inl mpa)), (m_w, .inl (y 1, 121, .inl mwe)), (m_l, .inl (y 3, 121, .inl mli)), (m_v, .inl (y 2, 121, .inr (.inl mvo))), (m_r, .inl (y 0, 32, .inl mro)), (m_q, .inl (y 1, 260, .inl mpl))]) (wn := [(am, .inr (8, [.int th, .int mb, .ref mo, .int us, .int me, .int rc, .int (zb dn), .int lf, .int mw, .int mf, .ref m_p, .ref m_w, .ref m_l, .ref m_v, .int ms, .int mu, .long ml, .ref m_r, .int mz, .ref m_q])), (mo, .inl (y 4, 2, .inr (.inr (.inr (.inr (outr m1 m2)))))), (m1, .inl (y 0, nb, .inl c1)), (m2, .inl (y 0, nb, .inl c2)), (m_p, .inl (y 1, 121, .inl mpa)), (m_w, .inl (y 1, 121, .inl mwe)), (m_l, .inl (y 3, 121, .inl mli)), (m_v, .inl (y 2, 121, .inr (.inl mvo))), (m_r, .inl (y 0, 32, .inl mro)), (m_q, .inl (y 1, 260, .inl mpl))]) hfix (cX9_take_ok l D y m1 nb c1 ((p1 + (r_4.toInt32)) - (5 : Int32)) (4 : Int32) _ hc_9) (va_cwS 3 hts gX9_whole_X9_take rfl rfl rfl (by decide +kernel) ⟨Nat.le_of_ble_eq_true rfl, Nat.le_of_ble_eq_true rfl⟩) E hP hD hS [2] [0, 1, 3, 4, 5, 6, 7, 8, 9] [0, 1, 9, 2, 3, 4, 5, 6, 7, 8] rfl rfl rfl rfl (by decide) rfl rfl rfl hl.1 rfl (Nat.le_of_ble_eq_true rfl) dX9_whole_55 ⟨Nat.zero_le _, Nat.zero_le _⟩ (fun H locs hP hD hS => ?_)
          refine W.eq (g2 := F0 m 58 ls [.long r_8]) rfl ?_
          refine lv_l2i (v := (r_8.toInt32)) hx hb dX9_whole_58 rfl ?_
          refine lv_aload_n hx hb dX9_whole_59 rfl (lv_at hl 1 rfl) ?_
          refine lv_iload_n hx hb dX9_whole_60 rfl (lv_at hl 3 rfl) ?_
          refine lv_iload_n hx hb dX9_whole_61 rfl (lv_at hl 3 rfl) ?_
          refine lv_iload_n hx hb dX9_whole_62 rfl (lv_at hl 0 rfl) ?_
          refine lv_iadd hx hb dX9_whole_63 ?_
          refine lv_iconst (v := (5 : Int32)) hx hb dX9_whole_64 (by decide) ?_
          refine lv_isub hx hb dX9_whole_65 ?_
          obtain ⟨r_10, hc_11, hf⟩ := obd hf
          refine ct_S (As := [.ref m1, .int p1, .int ((p1 + (r_4.toInt32)) - (5 : Int32))]) (rest := [.int (r_8.toInt32)]) (wr := [(am, .inr (8, [.int th, .int mb, .ref mo, .int us, .int me, .int rc, .int (zb dn), .int lf, .int mw, .int mf, .ref m_p, .ref m_w, .ref m_l, .ref m_v, .int ms, .int mu, .long ml, .ref m_r, .int mz, .ref m_q])), (mo, .inl (y 4, 2, .inr (.inr (.inr (.inr (outr m1 m2)))))), (m2, .inl (y 0, nb, .inl c2)), (m_p, .inl (y 1, 121, .inl mpa)), (m_w, .inl (y 1, 121, .inl mwe)), (m_l, .inl (y 3, 121, .inl mli)), (m_v, .inl (y 2, 121, .inr (.inl mvo))), (m_r, .inl (y 0, 32, .inl mro)), (m_q, .inl (y 1, 260, .inl mpl))]) (wn := [(am, .inr (8, [.int th, .int mb, .ref mo, .int us, .int me, .int rc, .int (zb dn), .int lf, .int mw, .int mf, .ref m_p, .ref m_w, .ref m_l, .ref m_v, .int ms, .int mu, .long ml, .ref m_r, .int mz, .ref m_q])), (mo, .inl (y 4, 2, .inr (.inr (.inr (.inr (outr m1 m2)))))), (m1, .inl (y 0, nb, .inl c1)), (m2, .inl (y 0, nb, .inl c2)), (m_p, .inl (y 1, 121, .inl mpa)), (m_w, .inl (y 1, 121, .inl mwe)), (m_l, .inl (y 3, 121, .inl mli)), (m_v, .inl (y 2, 121, .inr (.inl mvo))), (m_r, .inl (y 0, 32, .inl mro)), (m_q, .inl (y 1, 260, .inl mpl))]) hfix (cX9_crc_ok l D y m1 nb c1 p1 ((p1 + (r_4.toInt32)) - (5 : Int32)) _ hc_11) (va_cwS 3 hts gX9_whole_X9_crc rfl rfl rfl (by decide +kernel) ⟨Nat.le_of_ble_eq_true rfl, Nat.le_of_ble_eq_true rfl⟩) E hP hD hS [2] [0, 1, 3, 4, 5, 6, 7, 8, 9] [0, 1, 9, 2, 3, 4, 5, 6, 7, 8] rfl rfl rfl rfl (by decide) rfl rfl rfl hl.1 rfl (Nat.le_of_ble_eq_true rfl) dX9_whole_66 ⟨Nat.zero_le _, Nat.zero_le _⟩ (fun H locs hP hD hS => ?_)
          refine W.eq (g2 := F0 m 69 ls [.int r_10, .int (r_8.toInt32)]) rfl ?_
          refine lv_icmp_ne (tgt := 93) hx hb dX9_whole_69 (by decide) (fun c_12 => ?_) (fun c_12 => ?_)
          · have hf := ifn hf c_12
            refine lv_iconst (v := (0 : Int32)) hx hb dX9_whole_93 (by decide) ?_
            obtain rfl := Option.some.inj hf
            exact W.iret hx hb hr (fun t ht hW => ⟨⟨(), rfl, by rw [ht]; exact hP, hD⟩, hS.F ht⟩) hS.2.2 dX9_whole_94
          · have hf := ifp hf c_12
            refine lv_aload_n hx hb dX9_whole_72 rfl (lv_at hl 1 rfl) ?_
            refine lv_iload_n hx hb dX9_whole_73 rfl (lv_at hl 3 rfl) ?_
            refine lv_iload_n hx hb dX9_whole_74 rfl (lv_at hl 0 rfl) ?_
            refine lv_iadd hx hb dX9_whole_75 ?_
            refine lv_iconst (v := (1 : Int32)) hx hb dX9_whole_76 (by decide) ?_
            refine lv_isub hx hb dX9_whole_77 ?_
            obtain ⟨h_13, hf⟩ := ibk hf
            refine va_bald hx hb hK hP 2 0 rfl rfl (ib_in h_13) dX9_whole_78 ?_
            refine lv_sipush (v := (255 : Int32)) hx hb dX9_whole_79 (by decide) ?_
            refine lv_iand hx hb dX9_whole_82 ?_
            refine lv_sipush (v := (165 : Int32)) hx hb dX9_whole_83 (by decide) ?_
            refine lv_icmp_ne (tgt := 93) hx hb dX9_whole_86 (by decide) (fun c_14 => ?_) (fun c_14 => ?_)
            · have hf := ifn hf c_14
              refine lv_iconst (v := (0 : Int32)) hx hb dX9_whole_93 (by decide) ?_
              obtain rfl := Option.some.inj hf
              exact W.iret hx hb hr (fun t ht hW => ⟨⟨(), rfl, by rw [ht]; exact hP, hD⟩, hS.F ht⟩) hS.2.2 dX9_whole_94
            · have hf := ifp hf c_14
              refine lv_iload_n hx hb dX9_whole_89 rfl (lv_at hl 0 rfl) ?_
              refine lv_goto (tgt := 94) hx hb dX9_whole_90 (by decide) ?_
              obtain rfl := Option.some.inj hf
              exact W.iret hx hb hr (fun t ht hW => ⟨⟨(), rfl, by rw [ht]; exact hP, hD⟩, hS.F ht⟩) hS.2.2 dX9_whole_94
        · have hf := ifn hf c_7
          refine lv_iconst (v := (0 : Int32)) hx hb dX9_whole_46 (by decide) ?_
          obtain rfl := Option.some.inj hf
          exact W.iret hx hb hr (fun t ht hW => ⟨⟨(), rfl, by rw [ht]; exact hP, hD⟩, hS.F ht⟩) hS.2.2 dX9_whole_47
    · have hf := ifn hf c_3
      refine lv_iconst (v := (0 : Int32)) hx hb dX9_whole_20 (by decide) ?_
      obtain rfl := Option.some.inj hf
      exact W.iret hx hb hr (fun t ht hW => ⟨⟨(), rfl, by rw [ht]; exact hP, hD⟩, hS.F ht⟩) hS.2.2 dX9_whole_21
  · have hf := ifn hf c_1
    by_cases c_2 : us = 1
    · have hf := ifp hf c_2
      refine al_1 (hi := c_2) hx hb hK hP 1 4 rfl rfl dX9_whole_8 ?_
      refine lv_astore_n (lv' := [(2, .ref m2), (0, .ref am), (1, .int p1)]) hx hb dX9_whole_9 rfl hl (by decide) rfl (fun ls hl => ?_)
      refine lv_iload_n hx hb dX9_whole_10 rfl (lv_at hl 2 rfl) ?_
      refine lv_iconst (v := (2 : Int32)) hx hb dX9_whole_11 (by decide) ?_
      refine lv_iadd hx hb dX9_whole_12 ?_
      refine lv_aload_n hx hb dX9_whole_13 rfl (lv_at hl 1 rfl) ?_
      refine va_get (D := D) (ci := 8) (v := .int mb) (C := RX9) (T := TX9) (N := 20) hx hb hts iX9 hown hK hP 0 rfl rfl 1 (by decide) (hts (.fieldLink RX9 35 "SampleTrackerModel" "bytes" "I") (by decide +kernel)) (fun _ h9 => h9) rfl dX9_whole_14 ?_
      refine lv_icmp_le (tgt := 22) hx hb dX9_whole_17 (by decide) (fun c_15 => ?_) (fun c_15 => ?_)
      · have hf := ifp hf c_15
        refine lv_aload_n hx hb dX9_whole_22 rfl (lv_at hl 0 rfl) ?_
        refine lv_iload_n hx hb dX9_whole_23 rfl (lv_at hl 2 rfl) ?_
        refine lv_iconst (v := (2 : Int32)) hx hb dX9_whole_24 (by decide) ?_
        obtain ⟨r_16, hc_17, hf⟩ := obd hf
        refine ct_S (As := [.ref m2, .int p1, .int (2 : Int32)]) (rest := []) (wr := [(am, .inr (8, [.int th, .int mb, .ref mo, .int us, .int me, .int rc, .int (zb dn), .int lf, .int mw, .int mf, .ref m_p, .ref m_w, .ref m_l, .ref m_v, .int ms, .int mu, .long ml, .ref m_r, .int mz, .ref m_q])), (mo, .inl (y 4, 2, .inr (.inr (.inr (.inr (outr m1 m2)))))), (m1, .inl (y 0, nb, .inl c1)), (m_p, .inl (y 1, 121, .inl mpa)), (m_w, .inl (y 1, 121, .inl mwe)), (m_l, .inl (y 3, 121, .inl mli)), (m_v, .inl (y 2, 121, .inr (.inl mvo))), (m_r, .inl (y 0, 32, .inl mro)), (m_q, .inl (y 1, 260, .inl mpl))]) (wn := [(am, .inr (8, [.int th, .int mb, .ref mo, .int us, .int me, .int rc, .int (zb dn), .int lf, .int mw, .int mf, .ref m_p, .ref m_w, .ref m_l, .ref m_v, .int ms, .int mu, .long ml, .ref m_r, .int mz, .ref m_q])), (mo, .inl (y 4, 2, .inr (.inr (.inr (.inr (outr m1 m2)))))), (m1, .inl (y 0, nb, .inl c1)), (m2, .inl (y 0, nb, .inl c2)), (m_p, .inl (y 1, 121, .inl mpa)), (m_w, .inl (y 1, 121, .inl mwe)), (m_l, .inl (y 3, 121, .inl mli)), (m_v, .inl (y 2, 121, .inr (.inl mvo))), (m_r, .inl (y 0, 32, .inl mro)), (m_q, .inl (y 1, 260, .inl mpl))]) hfix (cX9_take_ok l D y m2 nb c2 p1 (2 : Int32) _ hc_17) (va_cwS 3 hts gX9_whole_X9_take rfl rfl rfl (by decide +kernel) ⟨Nat.le_of_ble_eq_true rfl, Nat.le_of_ble_eq_true rfl⟩) E hP hD hS [3] [0, 1, 2, 4, 5, 6, 7, 8, 9] [0, 1, 2, 9, 3, 4, 5, 6, 7, 8] rfl rfl rfl rfl (by decide) rfl rfl rfl hl.1 rfl (Nat.le_of_ble_eq_true rfl) dX9_whole_25 ⟨Nat.zero_le _, Nat.zero_le _⟩ (fun H locs hP hD hS => ?_)
        refine W.eq (g2 := F0 m 28 ls [.long r_16]) rfl ?_
        refine lv_l2i (v := (r_16.toInt32)) hx hb dX9_whole_28 rfl ?_
        refine lv_istore_n (lv' := [(3, .int (r_16.toInt32)), (2, .ref m2), (0, .ref am), (1, .int p1)]) hx hb dX9_whole_29 rfl hl (by decide) rfl (fun ls hl => ?_)
        refine lv_iload_n hx hb dX9_whole_30 rfl (lv_at hl 0 rfl) ?_
        refine lv_bipush (v := (8 : Int32)) hx hb dX9_whole_31 (by decide) ?_
        refine lv_icmp_lt (tgt := 46) hx hb dX9_whole_33 (by decide) (fun c_18 => ?_) (fun c_18 => ?_)
        · have hf := ifp hf c_18
          refine lv_iconst (v := (0 : Int32)) hx hb dX9_whole_46 (by decide) ?_
          obtain rfl := Option.some.inj hf
          exact W.iret hx hb hr (fun t ht hW => ⟨⟨(), rfl, by rw [ht]; exact hP, hD⟩, hS.F ht⟩) hS.2.2 dX9_whole_47
        · have hf := ifn hf c_18
          refine lv_iload_n hx hb dX9_whole_36 rfl (lv_at hl 3 rfl) ?_
          refine lv_iload_n hx hb dX9_whole_37 rfl (lv_at hl 0 rfl) ?_
          refine lv_iadd hx hb dX9_whole_38 ?_
          refine lv_aload_n hx hb dX9_whole_39 rfl (lv_at hl 2 rfl) ?_
          refine va_get (D := D) (ci := 8) (v := .int mb) (C := RX9) (T := TX9) (N := 20) hx hb hts iX9 hown hK hP 0 rfl rfl 1 (by decide) (hts (.fieldLink RX9 35 "SampleTrackerModel" "bytes" "I") (by decide +kernel)) (fun _ h9 => h9) rfl dX9_whole_40 ?_
          refine lv_icmp_le (tgt := 48) hx hb dX9_whole_43 (by decide) (fun c_19 => ?_) (fun c_19 => ?_)
          · have hf := ifp hf c_19
            refine lv_aload_n hx hb dX9_whole_48 rfl (lv_at hl 1 rfl) ?_
            refine lv_iload_n hx hb dX9_whole_49 rfl (lv_at hl 3 rfl) ?_
            refine lv_iload_n hx hb dX9_whole_50 rfl (lv_at hl 0 rfl) ?_
            refine lv_iadd hx hb dX9_whole_51 ?_
            refine lv_iconst (v := (5 : Int32)) hx hb dX9_whole_52 (by decide) ?_
            refine lv_isub hx hb dX9_whole_53 ?_
            refine lv_iconst (v := (4 : Int32)) hx hb dX9_whole_54 (by decide) ?_
            obtain ⟨r_20, hc_21, hf⟩ := obd hf
            refine ct_S (As := [.ref m2, .int ((p1 + (r_16.toInt32)) - (5 : Int32)), .int (4 : Int32)]) (rest := []) (wr := [(am, .inr (8, [.int th, .int mb, .ref mo, .int us, .int me, .int rc, .int (zb dn), .int lf, .int mw, .int mf, .ref m_p, .ref m_w, .ref m_l, .ref m_v, .int ms, .int mu, .long ml, .ref m_r, .int mz, .ref m_q])), (mo, .inl (y 4, 2, .inr (.inr (.inr (.inr (outr m1 m2)))))), (m1, .inl (y 0, nb, .inl c1)), (m_p, .inl (y 1, 121, .inl mpa)), (m_w, .inl (y 1, 121, .inl mwe)), (m_l, .inl (y 3, 121, .inl mli)), (m_v, .inl (y 2, 121, .inr (.inl mvo))), (m_r, .inl (y 0, 32, .inl mro)), (m_q, .inl (y 1, 260, .inl mpl))]) (wn := [(am, .inr (8, [.int th, .int mb, .ref mo, .int us, .int me, .int rc, .int (zb dn), .int lf, .int mw, .int mf, .ref m_p, .ref m_w, .ref m_l, .ref m_v, .int ms, .int mu, .long ml, .ref m_r, .int mz, .ref m_q])), (mo, .inl (y 4, 2, .inr (.inr (.inr (.inr (outr m1 m2)))))), (m1, .inl (y 0, nb, .inl c1)), (m2, .inl (y 0, nb, .inl c2)), (m_p, .inl (y 1, 121, .inl mpa)), (m_w, .inl (y 1, 121, .inl mwe)), (m_l, .inl (y 3, 121, .inl mli)), (m_v, .inl (y 2, 121, .inr (.inl mvo))), (m_r, .inl (y 0, 32, .inl mro)), (m_q, .inl (y 1, 260, .inl mpl))]) hfix (cX9_take_ok l D y m2 nb c2 ((p1 + (r_16.toInt32)) - (5 : Int32)) (4 : Int32) _ hc_21) (va_cwS 3 hts gX9_whole_X9_take rfl rfl rfl (by decide +kernel) ⟨Nat.le_of_ble_eq_true rfl, Nat.le_of_ble_eq_true rfl⟩) E hP hD hS [3] [0, 1, 2, 4, 5, 6, 7, 8, 9] [0, 1, 2, 9, 3, 4, 5, 6, 7, 8] rfl rfl rfl rfl (by decide) rfl rfl rfl hl.1 rfl (Nat.le_of_ble_eq_true rfl) dX9_whole_55 ⟨Nat.zero_le _, Nat.zero_le _⟩ (fun H locs hP hD hS => ?_)
            refine W.eq (g2 := F0 m 58 ls [.long r_20]) rfl ?_
            refine lv_l2i (v := (r_20.toInt32)) hx hb dX9_whole_58 rfl ?_
            refine lv_aload_n hx hb dX9_whole_59 rfl (lv_at hl 1 rfl) ?_
            refine lv_iload_n hx hb dX9_whole_60 rfl (lv_at hl 3 rfl) ?_
            refine lv_iload_n hx hb dX9_whole_61 rfl (lv_at hl 3 rfl) ?_
            refine lv_iload_n hx hb dX9_whole_62 rfl (lv_at hl 0 rfl) ?_
            refine lv_iadd hx hb dX9_whole_63 ?_
            refine lv_iconst (v := (5 : Int32)) hx hb dX9_whole_64 (by decide) ?_
            refine lv_isub hx hb dX9_whole_65 ?_
            obtain ⟨r_22, hc_23, hf⟩ := obd hf
            refine ct_S (As := [.ref m2, .int p1, .int ((p1 + (r_16.toInt32)) - (5 : Int32))]) (rest := [.int (r_20.toInt32)]) (wr := [(am, .inr (8, [.int th, .int mb, .ref mo, .int us, .int me, .int rc, .int (zb dn), .int lf, .int mw, .int mf, .ref m_p, .ref m_w, .ref m_l, .ref m_v, .int ms, .int mu, .long ml, .ref m_r, .int mz, .ref m_q])), (mo, .inl (y 4, 2, .inr (.inr (.inr (.inr (outr m1 m2)))))), (m1, .inl (y 0, nb, .inl c1)), (m_p, .inl (y 1, 121, .inl mpa)), (m_w, .inl (y 1, 121, .inl mwe)), (m_l, .inl (y 3, 121, .inl mli)), (m_v, .inl (y 2, 121, .inr (.inl mvo))), (m_r, .inl (y 0, 32, .inl mro)), (m_q, .inl (y 1, 260, .inl mpl))]) (wn := [(am, .inr (8, [.int th, .int mb, .ref mo, .int us, .int me, .int rc, .int (zb dn), .int lf, .int mw, .int mf, .ref m_p, .ref m_w, .ref m_l, .ref m_v, .int ms, .int mu, .long ml, .ref m_r, .int mz, .ref m_q])), (mo, .inl (y 4, 2, .inr (.inr (.inr (.inr (outr m1 m2)))))), (m1, .inl (y 0, nb, .inl c1)), (m2, .inl (y 0, nb, .inl c2)), (m_p, .inl (y 1, 121, .inl mpa)), (m_w, .inl (y 1, 121, .inl mwe)), (m_l, .inl (y 3, 121, .inl mli)), (m_v, .inl (y 2, 121, .inr (.inl mvo))), (m_r, .inl (y 0, 32, .inl mro)), (m_q, .inl (y 1, 260, .inl mpl))]) hfix (cX9_crc_ok l D y m2 nb c2 p1 ((p1 + (r_16.toInt32)) - (5 : Int32)) _ hc_23) (va_cwS 3 hts gX9_whole_X9_crc rfl rfl rfl (by decide +kernel) ⟨Nat.le_of_ble_eq_true rfl, Nat.le_of_ble_eq_true rfl⟩) E hP hD hS [3] [0, 1, 2, 4, 5, 6, 7, 8, 9] [0, 1, 2, 9, 3, 4, 5, 6, 7, 8] rfl rfl rfl rfl (by decide) rfl rfl rfl hl.1 rfl (Nat.le_of_ble_eq_true rfl) dX9_whole_66 ⟨Nat.zero_le _, Nat.zero_le _⟩ (fun H locs hP hD hS => ?_)
            refine W.eq (g2 := F0 m 69 ls [.int r_22, .int (r_20.toInt32)]) rfl ?_
            refine lv_icmp_ne (tgt := 93) hx hb dX9_whole_69 (by decide) (fun c_24 => ?_) (fun c_24 => ?_)
            · have hf := ifn hf c_24
              refine lv_iconst (v := (0 : Int32)) hx hb dX9_whole_93 (by decide) ?_
              obtain rfl := Option.some.inj hf
              exact W.iret hx hb hr (fun t ht hW => ⟨⟨(), rfl, by rw [ht]; exact hP, hD⟩, hS.F ht⟩) hS.2.2 dX9_whole_94
            · have hf := ifp hf c_24
              refine lv_aload_n hx hb dX9_whole_72 rfl (lv_at hl 1 rfl) ?_
              refine lv_iload_n hx hb dX9_whole_73 rfl (lv_at hl 3 rfl) ?_
              refine lv_iload_n hx hb dX9_whole_74 rfl (lv_at hl 0 rfl) ?_
              refine lv_iadd hx hb dX9_whole_75 ?_
              refine lv_iconst (v := (1 : Int32)) hx hb dX9_whole_76 (by decide) ?_
              refine lv_isub hx hb dX9_whole_77 ?_
              obtain ⟨h_25, hf⟩ := ibk hf
              refine va_bald hx hb hK hP 3 0 rfl rfl (ib_in h_25) dX9_whole_78 ?_
              refine lv_sipush (v := (255 : Int32)) hx hb dX9_whole_79 (by decide) ?_
              refine lv_iand hx hb dX9_whole_82 ?_
              refine lv_sipush (v := (165 : Int32)) hx hb dX9_whole_83 (by decide) ?_
              refine lv_icmp_ne (tgt := 93) hx hb dX9_whole_86 (by decide) (fun c_26 => ?_) (fun c_26 => ?_)
              · have hf := ifn hf c_26
                refine lv_iconst (v := (0 : Int32)) hx hb dX9_whole_93 (by decide) ?_
                obtain rfl := Option.some.inj hf
                exact W.iret hx hb hr (fun t ht hW => ⟨⟨(), rfl, by rw [ht]; exact hP, hD⟩, hS.F ht⟩) hS.2.2 dX9_whole_94
              · have hf := ifp hf c_26
                refine lv_iload_n hx hb dX9_whole_89 rfl (lv_at hl 0 rfl) ?_
                refine lv_goto (tgt := 94) hx hb dX9_whole_90 (by decide) ?_
                obtain rfl := Option.some.inj hf
                exact W.iret hx hb hr (fun t ht hW => ⟨⟨(), rfl, by rw [ht]; exact hP, hD⟩, hS.F ht⟩) hS.2.2 dX9_whole_94
          · have hf := ifn hf c_19
            refine lv_iconst (v := (0 : Int32)) hx hb dX9_whole_46 (by decide) ?_
            obtain rfl := Option.some.inj hf
            exact W.iret hx hb hr (fun t ht hW => ⟨⟨(), rfl, by rw [ht]; exact hP, hD⟩, hS.F ht⟩) hS.2.2 dX9_whole_47
      · have hf := ifn hf c_15
        refine lv_iconst (v := (0 : Int32)) hx hb dX9_whole_20 (by decide) ?_
        obtain rfl := Option.some.inj hf
        exact W.iret hx hb hr (fun t ht hW => ⟨⟨(), rfl, by rw [ht]; exact hP, hD⟩, hS.F ht⟩) hS.2.2 dX9_whole_21
    · have hf := ifn hf c_2
      exact absurd hf (fun q => by cases q)

