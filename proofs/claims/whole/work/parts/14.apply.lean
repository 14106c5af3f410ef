/-! 14.apply: laid by wip/whole/gen.py: mirrors and contracts -/
def fX7_addSample (pa : Nat → Int32) (we : Nat → Int32) (vo : Nat → Int64) (sa : Int32) (p1 : Int32) (p2 : Int32) (p3 : Int64) : Option ((Nat → Int32) × (Nat → Int32) × (Nat → Int64) × Int32) := ((fX7_isFull sa).bind fun r_1 => (if (zb r_1) = 0 then (if (ib (sa + (1 : Int32)) 121) = true then some ((upd pa (sa + (1 : Int32)).toNatClampNeg p1), (upd we (sa + (1 : Int32)).toNatClampNeg p2), (vp_updL vo (sa + (1 : Int32)).toNatClampNeg p3), (sa + (1 : Int32))) else none) else some (pa, we, vo, sa)))

set_option maxHeartbeats 4000000 in
set_option maxRecDepth 100000 in
theorem cX7_addSample_ok (l : Launch) (D : va_G) (y : Nat → ClassId) (atb : Nat) (tp : Nat) (tw : Nat) (tv : Nat) (tf : Nat) (aq : Nat) (u0 : Nat) (u1 : Nat) (u2 : Nat) (u3 : Nat) (u4 : Nat) (pa : Nat → Int32) (we : Nat → Int32) (vo : Nat → Int64) (fm : Nat → Int32) (sa : Int32) (lo : Int64) (qs : Nat → Int32) (ql : Nat → Int64) (qt : Nat → Int32) (qw : Nat → Int32) (qv : Nat → Int64) (qn : Int32) (p1 : Int32) (p2 : Int32) (p3 : Int64) (res : (Nat → Int32) × (Nat → Int32) × (Nat → Int64) × Int32) (hf : fX7_addSample pa we vo sa p1 p2 p3 = some res) : CT l D y yX7_addSample wsX7_addSample ({ frames := 1, cells := 0, slots := 0, locals := 20 } : Room) [.ref atb, .int p1, .int p2, .long p3] [(atb, .inr (6, [.ref tp, .ref tw, .ref tv, .ref tf, .ref aq, .int sa, .long lo])), (tp, .inl (y 1, 121, .inl pa)), (tw, .inl (y 1, 121, .inl we)), (tv, .inl (y 2, 121, .inr (.inl vo))), (tf, .inl (y 3, 121, .inl fm)), (aq, .inr (3, [.ref u0, .ref u1, .ref u2, .ref u3, .ref u4, .int qn])), (u0, .inl (y 1, 256, .inl qs)), (u1, .inl (y 2, 256, .inr (.inl ql))), (u2, .inl (y 1, 256, .inl qt)), (u3, .inl (y 1, 256, .inl qw)), (u4, .inl (y 2, 256, .inr (.inl qv)))] (none) [(atb, .inr (6, [.ref tp, .ref tw, .ref tv, .ref tf, .ref aq, .int res.2.2.2, .long lo])), (tp, .inl (y 1, 121, .inl res.1)), (tw, .inl (y 1, 121, .inl res.2.1)), (tv, .inl (y 2, 121, .inr (.inl res.2.2.1))), (tf, .inl (y 3, 121, .inl fm)), (aq, .inr (3, [.ref u0, .ref u1, .ref u2, .ref u3, .ref u4, .int qn])), (u0, .inl (y 1, 256, .inl qs)), (u1, .inl (y 2, 256, .inr (.inl ql))), (u2, .inl (y 1, 256, .inl qt)), (u3, .inl (y 1, 256, .inl qw)), (u4, .inl (y 2, 256, .inr (.inl qv)))] := by
  intro sz
  refine Met.ofW (cc := cX7_addSample) (maxL := 5) (ret := none) (by decide) rfl ?_
  intro p e s m args below meth c s₁ B hml hv
  obtain ⟨rfl, hsz, hP, hK, hD0, hst, hno⟩ := hv
  have hx := B.exec
  have hb := B.bytes
  have hr := B.returns
  have hts := atoms_spec (ws := wsX7_addSample) B.pre
  have hown : s.vm.findClass RX7 = some m.cls := findClass_of_methodNamed B.named
  have hlocks := B.notSynchronized
  subst hsz
  have hD := hD0.self (sz := s.heap.size)
  generalize hAe : va_A [(atb, .inr (6, [.ref tp, .ref tw, .ref tv, .ref tf, .ref aq, .int sa, .long lo])), (tp, .inl (y 1, 121, .inl pa)), (tw, .inl (y 1, 121, .inl we)), (tv, .inl (y 2, 121, .inr (.inl vo))), (tf, .inl (y 3, 121, .inl fm)), (aq, .inr (3, [.ref u0, .ref u1, .ref u2, .ref u3, .ref u4, .int qn])), (u0, .inl (y 1, 256, .inl qs)), (u1, .inl (y 2, 256, .inr (.inl ql))), (u2, .inl (y 1, 256, .inl qt)), (u3, .inl (y 1, 256, .inl qw)), (u4, .inl (y 2, 256, .inr (.inl qv)))] s.heap.size = A at hD hst ⊢
  have hA : ∀ q : Nat, s.heap.size ≤ q → A q := fun q h => by rw [← hAe]; exact Or.inr h
  have hS : va_S A s.heap s.heap [] := va_S.rf
  have E : Ev D y A s := ⟨hK, hst, hno, hA⟩
  have hfix : CallFix p m c cX7_addSample 5 s _ wsX7_addSample RX7 := ⟨hx, hb, hml, hown, hts⟩
  have hP : va_P D vwCl [(atb, .inr (6, [.ref tp, .ref tw, .ref tv, .ref tf, .ref aq, .int sa, .long lo])), (tp, .inl (y 1, 121, .inl pa)), (tw, .inl (y 1, 121, .inl we)), (tv, .inl (y 2, 121, .inr (.inl vo))), (tf, .inl (y 3, 121, .inl fm)), (aq, .inr (3, [.ref u0, .ref u1, .ref u2, .ref u3, .ref u4, .int qn])), (u0, .inl (y 1, 256, .inl qs)), (u1, .inl (y 2, 256, .inr (.inl ql))), (u2, .inl (y 1, 256, .inl qt)), (u3, .inl (y 1, 256, .inl qw)), (u4, .inl (y 2, 256, .inr (.inl qv)))] s.heap := hP
  have iX7 : ∀ w ∈ wsX70, w ∈ wsX7_addSample := by decide +kernel
  have hl := lv_entry ([.ref atb, .int p1, .int p2, .long p3]) (n := 5) (Nat.le_of_ble_eq_true rfl)
  rw [lg_entry_eq]
  generalize (lg_sl ([.ref atb, .int p1, .int p2, .long p3]) ++ List.replicate (5 - (lg_sl ([.ref atb, .int p1, .int p2, .long p3])).length) Slot.unset).toArray = ls at hl ⊢
  have hl : lv_has ls 5 [(0, .ref atb), (1, .int p1), (2, .int p2), (3, .long p3)] := hl
  unfold fX7_addSample at hf
  refine lv_aload_n hx hb dX7_addSample_0 rfl (lv_at hl 0 rfl) ?_
  obtain ⟨r_1, hc_2, hf⟩ := obd hf
  refine ct_V (As := []) (rest := []) (wr := []) (wn := [(atb, .inr (6, [.ref tp, .ref tw, .ref tv, .ref tf, .ref aq, .int sa, .long lo])), (tp, .inl (y 1, 121, .inl pa)), (tw, .inl (y 1, 121, .inl we)), (tv, .inl (y 2, 121, .inr (.inl vo))), (tf, .inl (y 3, 121, .inl fm)), (aq, .inr (3, [.ref u0, .ref u1, .ref u2, .ref u3, .ref u4, .int qn])), (u0, .inl (y 1, 256, .inl qs)), (u1, .inl (y 2, 256, .inr (.inl ql))), (u2, .inl (y 1, 256, .inl qt)), (u3, .inl (y 1, 256, .inl qw)), (u4, .inl (y 2, 256, .inr (.inl qv)))]) hfix (cX7_isFull_ok l D y atb tp tw tv tf aq u0 u1 u2 u3 u4 pa we vo fm sa lo qs ql qt qw qv qn _ hc_2) (cwV 0 hts gX7_addSample_X7_isFull rfl rfl rfl (by decide +kernel) ⟨Nat.le_of_ble_eq_true rfl, Nat.le_of_ble_eq_true rfl⟩) E hP hD hS [0, 1, 2, 3, 4, 5, 6, 7, 8, 9, 10] [] [0, 1, 2, 3, 4, 5, 6, 7, 8, 9, 10] rfl rfl rfl rfl (by decide) rfl rfl 0 6 rfl rfl rfl hl.1 rfl (Nat.le_of_ble_eq_true rfl) dX7_addSample_1 ⟨Nat.zero_le _, Nat.zero_le _⟩ (fun H locs hP hD hS => ?_)
  refine W.eq (g2 := F0 m 4 ls [.int (zb r_1)]) rfl ?_
  refine lv_if_ne (tgt := 47) hx hb dX7_addSample_4 (by decide) (fun c_3 => ?_) (fun c_3 => ?_)
  · have hf := ifn hf c_3
    obtain rfl := Option.some.inj hf
    exact W.vret hx hb hr (fun t ht hW => ⟨⟨(), rfl, by rw [ht]; exact hP, hD⟩, hS.F ht⟩) hS.2.2 dX7_addSample_47
  · have hf := ifp hf c_3
    refine lv_aload_n hx hb dX7_addSample_7 rfl (lv_at hl 0 rfl) ?_
    refine lv_dup hx hb dX7_addSample_8 rfl ?_
    refine va_get (D := D) (ci := 6) (v := .int sa) (C := RX7) (T := TX7) (N := 7) hx hb hts iX7 hown hK hP 0 rfl rfl 5 (by decide) (hts (.fieldLink RX7 33 "SampleTracker$Table" "samples" "I") (by decide +kernel)) (fun _ h9 => h9) rfl dX7_addSample_9 ?_
    refine lv_iconst (v := (1 : Int32)) hx hb dX7_addSample_12 (by decide) ?_
    refine lv_iadd hx hb dX7_addSample_13 ?_
    refine va_put (D := D) (ci := 6) (v := .int (sa + (1 : Int32))) (ty := .int) (C := RX7) (T := TX7) (N := 7) hx hb hts iX7 tyX7 tyX7_ok nmX7 hown hK hP hD hS 0 rfl rfl 5 (by decide) (hts (.fieldLink RX7 33 "SampleTracker$Table" "samples" "I") (by decide +kernel)) (fun _ h9 => h9) rfl (by decide +kernel) rfl rfl (Nat.le_of_ble_eq_true rfl) dX7_addSample_14 (fun H locs hP hD hS => ?_)
    have hP : va_P D vwCl [(atb, .inr (6, [.ref tp, .ref tw, .ref tv, .ref tf, .ref aq, .int (sa + (1 : Int32)), .long lo])), (tp, .inl (y 1, 121, .inl pa)), (tw, .inl (y 1, 121, .inl we)), (tv, .inl (y 2, 121, .inr (.inl vo))), (tf, .inl (y 3, 121, .inl fm)), (aq, .inr (3, [.ref u0, .ref u1, .ref u2, .ref u3, .ref u4, .int qn])), (u0, .inl (y 1, 256, .inl qs)), (u1, .inl (y 2, 256, .inr (.inl ql))), (u2, .inl (y 1, 256, .inl qt)), (u3, .inl (y 1, 256, .inl qw)), (u4, .inl (y 2, 256, .inr (.inl qv)))] H := hP
    have hD : va_D A [(atb, .inr (6, [.ref tp, .ref tw, .ref tv, .ref tf, .ref aq, .int (sa + (1 : Int32)), .long lo])), (tp, .inl (y 1, 121, .inl pa)), (tw, .inl (y 1, 121, .inl we)), (tv, .inl (y 2, 121, .inr (.inl vo))), (tf, .inl (y 3, 121, .inl fm)), (aq, .inr (3, [.ref u0, .ref u1, .ref u2, .ref u3, .ref u4, .int qn])), (u0, .inl (y 1, 256, .inl qs)), (u1, .inl (y 2, 256, .inr (.inl ql))), (u2, .inl (y 1, 256, .inl qt)), (u3, .inl (y 1, 256, .inl qw)), (u4, .inl (y 2, 256, .inr (.inl qv)))] := hD
    refine lv_aload_n hx hb dX7_addSample_17 rfl (lv_at hl 0 rfl) ?_
    refine va_get (D := D) (ci := 6) (v := .ref tp) (C := RX7) (T := TX7) (N := 7) hx hb hts iX7 hown hK hP 0 rfl rfl 0 (by decide) (hts (.fieldLink RX7 9 "SampleTracker$Table" "parents" "[I") (by decide +kernel)) (fun _ h9 => h9) rfl dX7_addSample_18 ?_
    refine lv_aload_n hx hb dX7_addSample_21 rfl (lv_at hl 0 rfl) ?_
    refine va_get (D := D) (ci := 6) (v := .int (sa + (1 : Int32))) (C := RX7) (T := TX7) (N := 7) hx hb hts iX7 hown hK hP 0 rfl rfl 5 (by decide) (hts (.fieldLink RX7 33 "SampleTracker$Table" "samples" "I") (by decide +kernel)) (fun _ h9 => h9) rfl dX7_addSample_22 ?_
    refine lv_iload_n hx hb dX7_addSample_25 rfl (lv_at hl 1 rfl) ?_
    obtain ⟨h_4, hf⟩ := ibk hf
    refine va_iast hx hb hK hP hD hS 1 1 rfl rfl (ib_in h_4) dX7_addSample_26 (fun H locs hP hD hS => ?_)
    have hP : va_P D vwCl [(atb, .inr (6, [.ref tp, .ref tw, .ref tv, .ref tf, .ref aq, .int (sa + (1 : Int32)), .long lo])), (tp, .inl (y 1, 121, .inl (upd pa (sa + (1 : Int32)).toNatClampNeg p1))), (tw, .inl (y 1, 121, .inl we)), (tv, .inl (y 2, 121, .inr (.inl vo))), (tf, .inl (y 3, 121, .inl fm)), (aq, .inr (3, [.ref u0, .ref u1, .ref u2, .ref u3, .ref u4, .int qn])), (u0, .inl (y 1, 256, .inl qs)), (u1, .inl (y 2, 256, .inr (.inl ql))), (u2, .inl (y 1, 256, .inl qt)), (u3, .inl (y 1, 256, .inl qw)), (u4, .inl (y 2, 256, .inr (.inl qv)))] H := hP
    have hD : va_D A [(atb, .inr (6, [.ref tp, .ref tw, .ref tv, .ref tf, .ref aq, .int (sa + (1 : Int32)), .long lo])), (tp, .inl (y 1, 121, .inl (upd pa (sa + (1 : Int32)).toNatClampNeg p1))), (tw, .inl (y 1, 121, .inl we)), (tv, .inl (y 2, 121, .inr (.inl vo))), (tf, .inl (y 3, 121, .inl fm)), (aq, .inr (3, [.ref u0, .ref u1, .ref u2, .ref u3, .ref u4, .int qn])), (u0, .inl (y 1, 256, .inl qs)), (u1, .inl (y 2, 256, .inr (.inl ql))), (u2, .inl (y 1, 256, .inl qt)), (u3, .inl (y 1, 256, .inl qw)), (u4, .inl (y 2, 256, .inr (.inl qv)))] := hD
    refine lv_aload_n hx hb dX7_addSample_27 rfl (lv_at hl 0 rfl) ?_
    refine va_get (D := D) (ci := 6) (v := .ref tw) (C := RX7) (T := TX7) (N := 7) hx hb hts iX7 hown hK hP 0 rfl rfl 1 (by decide) (hts (.fieldLink RX7 15 "SampleTracker$Table" "wells" "[I") (by decide +kernel)) (fun _ h9 => h9) rfl dX7_addSample_28 ?_
    refine lv_aload_n hx hb dX7_addSample_31 rfl (lv_at hl 0 rfl) ?_
    refine va_get (D := D) (ci := 6) (v := .int (sa + (1 : Int32))) (C := RX7) (T := TX7) (N := 7) hx hb hts iX7 hown hK hP 0 rfl rfl 5 (by decide) (hts (.fieldLink RX7 33 "SampleTracker$Table" "samples" "I") (by decide +kernel)) (fun _ h9 => h9) rfl dX7_addSample_32 ?_
    refine lv_iload_n hx hb dX7_addSample_35 rfl (lv_at hl 2 rfl) ?_
    refine va_iast hx hb hK hP hD hS 2 1 rfl rfl (ib_in h_4) dX7_addSample_36 (fun H locs hP hD hS => ?_)
    have hP : va_P D vwCl [(atb, .inr (6, [.ref tp, .ref tw, .ref tv, .ref tf, .ref aq, .int (sa + (1 : Int32)), .long lo])), (tp, .inl (y 1, 121, .inl (upd pa (sa + (1 : Int32)).toNatClampNeg p1))), (tw, .inl (y 1, 121, .inl (upd we (sa + (1 : Int32)).toNatClampNeg p2))), (tv, .inl (y 2, 121, .inr (.inl vo))), (tf, .inl (y 3, 121, .inl fm)), (aq, .inr (3, [.ref u0, .ref u1, .ref u2, .ref u3, .ref u4, .int qn])), (u0, .inl (y 1, 256, .inl qs)), (u1, .inl (y 2, 256, .inr (.inl ql))), (u2, .inl (y 1, 256, .inl qt)), (u3, .inl (y 1, 256, .inl qw)), (u4, .inl (y 2, 256, .inr (.inl qv)))] H := hP
    have hD : va_D A [(atb, .inr (6, [.ref tp, .ref tw, .ref tv, .ref tf, .ref aq, .int (sa + (1 : Int32)), .long lo])), (tp, .inl (y 1, 121, .inl (upd pa (sa + (1 : Int32)).toNatClampNeg p1))), (tw, .inl (y 1, 121, .inl (upd we (sa + (1 : Int32)).toNatClampNeg p2))), (tv, .inl (y 2, 121, .inr (.inl vo))), (tf, .inl (y 3, 121, .inl fm)), (aq, .inr (3, [.ref u0, .ref u1, .ref u2, .ref u3, .ref u4, .int qn])), (u0, .inl (y 1, 256, .inl qs)), (u1, .inl (y 2, 256, .inr (.inl ql))), (u2, .inl (y 1, 256, .inl qt)), (u3, .inl (y 1, 256, .inl qw)), (u4, .inl (y 2, 256, .inr (.inl qv)))] := hD
    refine lv_aload_n hx hb dX7_addSample_37 rfl (lv_at hl 0 rfl) ?_
    refine va_get (D := D) (ci := 6) (v := .ref tv) (C := RX7) (T := TX7) (N := 7) hx hb hts iX7 hown hK hP 0 rfl rfl 2 (by decide) (hts (.fieldLink RX7 18 "SampleTracker$Table" "volumes" "[J") (by decide +kernel)) (fun _ h9 => h9) rfl dX7_addSample_38 ?_
    refine lv_aload_n hx hb dX7_addSample_41 rfl (lv_at hl 0 rfl) ?_
    refine va_get (D := D) (ci := 6) (v := .int (sa + (1 : Int32))) (C := RX7) (T := TX7) (N := 7) hx hb hts iX7 hown hK hP 0 rfl rfl 5 (by decide) (hts (.fieldLink RX7 33 "SampleTracker$Table" "samples" "I") (by decide +kernel)) (fun _ h9 => h9) rfl dX7_addSample_42 ?_
    refine lv_lload_n hx hb dX7_addSample_45 rfl (lv_at hl 3 rfl) ?_
    refine va_last hx hb hK hP hD hS 3 2 rfl rfl (ib_in h_4) dX7_addSample_46 (fun H locs hP hD hS => ?_)
    have hP : va_P D vwCl [(atb, .inr (6, [.ref tp, .ref tw, .ref tv, .ref tf, .ref aq, .int (sa + (1 : Int32)), .long lo])), (tp, .inl (y 1, 121, .inl (upd pa (sa + (1 : Int32)).toNatClampNeg p1))), (tw, .inl (y 1, 121, .inl (upd we (sa + (1 : Int32)).toNatClampNeg p2))), (tv, .inl (y 2, 121, .inr (.inl (vp_updL vo (sa + (1 : Int32)).toNatClampNeg p3)))), (tf, .inl (y 3, 121, .inl fm)), (aq, .inr (3, [.ref u0, .ref u1, .ref u2, .ref u3, .ref u4, .int qn])), (u0, .inl (y 1, 256, .inl qs)), (u1, .inl (y 2, 256, .inr (.inl ql))), (u2, .inl (y 1, 256, .inl qt)), (u3, .inl (y 1, 256, .inl qw)), (u4, .inl (y 2, 256, .inr (.inl qv)))] H := hP
    have hD : va_D A [(atb, .inr (6, [.ref tp, .ref tw, .ref tv, .ref tf, .ref aq, .int (sa + (1 : Int32)), .long lo])), (tp, .inl (y 1, 121, .inl (upd pa (sa + (1 : Int32)).toNatClampNeg p1))), (tw, .inl (y 1, 121, .inl (upd we (sa + (1 : Int32)).toNatClampNeg p2))), (tv, .inl (y 2, 121, .inr (.inl (vp_updL vo (sa + (1 : Int32)).toNatClampNeg p3)))), (tf, .inl (y 3, 121, .inl fm)), (aq, .inr (3, [.ref u0, .ref u1, .ref u2, .ref u3, .ref u4, .int qn])), (u0, .inl (y 1, 256, .inl qs)), (u1, .inl (y 2, 256, .inr (.inl ql))), (u2, .inl (y 1, 256, .inl qt)), (u3, .inl (y 1, 256, .inl qw)), (u4, .inl (y 2, 256, .inr (.inl qv)))] := hD
    obtain rfl := Option.some.inj hf
    exact W.vret hx hb hr (fun t ht hW => ⟨⟨(), rfl, by rw [ht]; exact hP, hD⟩, hS.F ht⟩) hS.2.2 dX7_addSample_47

def fX7_remember (we : Nat → Int32) (vo : Nat → Int64) (sa : Int32) (lo : Int64) (qs : Nat → Int32) (ql : Nat → Int64) (qt : Nat → Int32) (qw : Nat → Int32) (qv : Nat → Int64) (qn : Int32) (p1 : Int32) : Option ((Nat → Int32) × (Nat → Int64) × (Nat → Int32) × (Nat → Int32) × (Nat → Int64) × Int32) := ((fX7_wellOf we sa p1).bind fun r_1 => ((fX7_volumeOf vo sa p1).bind fun r_3 => ((fX4_add qs ql qt qw qv qn sa lo p1 r_1 r_3).bind fun (o_qs_5, o_ql_6, o_qt_7, o_qw_8, o_qv_9, o_qn_10) => some (o_qs_5, o_ql_6, o_qt_7, o_qw_8, o_qv_9, o_qn_10))))

set_option maxHeartbeats 4000000 in
set_option maxRecDepth 100000 in
theorem cX7_remember_ok (l : Launch) (D : va_G) (y : Nat → ClassId) (atb : Nat) (tp : Nat) (tw : Nat) (tv : Nat) (tf : Nat) (aq : Nat) (u0 : Nat) (u1 : Nat) (u2 : Nat) (u3 : Nat) (u4 : Nat) (pa : Nat → Int32) (we : Nat → Int32) (vo : Nat → Int64) (fm : Nat → Int32) (sa : Int32) (lo : Int64) (qs : Nat → Int32) (ql : Nat → Int64) (qt : Nat → Int32) (qw : Nat → Int32) (qv : Nat → Int64) (qn : Int32) (p1 : Int32) (res : (Nat → Int32) × (Nat → Int64) × (Nat → Int32) × (Nat → Int32) × (Nat → Int64) × Int32) (hf : fX7_remember we vo sa lo qs ql qt qw qv qn p1 = some res) : CT l D y yX7_remember wsX7_remember ({ frames := 2, cells := 0, slots := 0, locals := 42 } : Room) [.ref atb, .int p1] [(atb, .inr (6, [.ref tp, .ref tw, .ref tv, .ref tf, .ref aq, .int sa, .long lo])), (tp, .inl (y 1, 121, .inl pa)), (tw, .inl (y 1, 121, .inl we)), (tv, .inl (y 2, 121, .inr (.inl vo))), (tf, .inl (y 3, 121, .inl fm)), (aq, .inr (3, [.ref u0, .ref u1, .ref u2, .ref u3, .ref u4, .int qn])), (u0, .inl (y 1, 256, .inl qs)), (u1, .inl (y 2, 256, .inr (.inl ql))), (u2, .inl (y 1, 256, .inl qt)), (u3, .inl (y 1, 256, .inl qw)), (u4, .inl (y 2, 256, .inr (.inl qv)))] (none) [(atb, .inr (6, [.ref tp, .ref tw, .ref tv, .ref tf, .ref aq, .int sa, .long lo])), (tp, .inl (y 1, 121, .inl pa)), (tw, .inl (y 1, 121, .inl we)), (tv, .inl (y 2, 121, .inr (.inl vo))), (tf, .inl (y 3, 121, .inl fm)), (aq, .inr (3, [.ref u0, .ref u1, .ref u2, .ref u3, .ref u4, .int res.2.2.2.2.2])), (u0, .inl (y 1, 256, .inl res.1)), (u1, .inl (y 2, 256, .inr (.inl res.2.1))), (u2, .inl (y 1, 256, .inl res.2.2.1)), (u3, .inl (y 1, 256, .inl res.2.2.2.1)), (u4, .inl (y 2, 256, .inr (.inl res.2.2.2.2.1)))] := by
  intro sz
  refine Met.ofW (cc := cX7_remember) (maxL := 2) (ret := none) (by decide) rfl ?_
  intro p e s m args below meth c s₁ B hml hv
  obtain ⟨rfl, hsz, hP, hK, hD0, hst, hno⟩ := hv
  have hx := B.exec
  have hb := B.bytes
  have hr := B.returns
  have hts := atoms_spec (ws := wsX7_remember) B.pre
  have hown : s.vm.findClass RX7 = some m.cls := findClass_of_methodNamed B.named
  have hlocks := B.notSynchronized
  subst hsz
  have hD := hD0.self (sz := s.heap.size)
  generalize hAe : va_A [(atb, .inr (6, [.ref tp, .ref tw, .ref tv, .ref tf, .ref aq, .int sa, .long lo])), (tp, .inl (y 1, 121, .inl pa)), (tw, .inl (y 1, 121, .inl we)), (tv, .inl (y 2, 121, .inr (.inl vo))), (tf, .inl (y 3, 121, .inl fm)), (aq, .inr (3, [.ref u0, .ref u1, .ref u2, .ref u3, .ref u4, .int qn])), (u0, .inl (y 1, 256, .inl qs)), (u1, .inl (y 2, 256, .inr (.inl ql))), (u2, .inl (y 1, 256, .inl qt)), (u3, .inl (y 1, 256, .inl qw)), (u4, .inl (y 2, 256, .inr (.inl qv)))] s.heap.size = A at hD hst ⊢
  have hA : ∀ q : Nat, s.heap.size ≤ q → A q := fun q h => by rw [← hAe]; exact Or.inr h
  have hS : va_S A s.heap s.heap [] := va_S.rf
  have E : Ev D y A s := ⟨hK, hst, hno, hA⟩
  have hfix : CallFix p m c cX7_remember 2 s _ wsX7_remember RX7 := ⟨hx, hb, hml, hown, hts⟩
  have hP : va_P D vwCl [(atb, .inr (6, [.ref tp, .ref tw, .ref tv, .ref tf, .ref aq, .int sa, .long lo])), (tp, .inl (y 1, 121, .inl pa)), (tw, .inl (y 1, 121, .inl we)), (tv, .inl (y 2, 121, .inr (.inl vo))), (tf, .inl (y 3, 121, .inl fm)), (aq, .inr (3, [.ref u0, .ref u1, .ref u2, .ref u3, .ref u4, .int qn])), (u0, .inl (y 1, 256, .inl qs)), (u1, .inl (y 2, 256, .inr (.inl ql))), (u2, .inl (y 1, 256, .inl qt)), (u3, .inl (y 1, 256, .inl qw)), (u4, .inl (y 2, 256, .inr (.inl qv)))] s.heap := hP
  have iX7 : ∀ w ∈ wsX70, w ∈ wsX7_remember := by decide +kernel
  have hl := lv_entry ([.ref atb, .int p1]) (n := 2) (Nat.le_of_ble_eq_true rfl)
  rw [lg_entry_eq]
  generalize (lg_sl ([.ref atb, .int p1]) ++ List.replicate (2 - (lg_sl ([.ref atb, .int p1])).length) Slot.unset).toArray = ls at hl ⊢
  have hl : lv_has ls 2 [(0, .ref atb), (1, .int p1)] := hl
  unfold fX7_remember at hf
  refine lv_aload_n hx hb dX7_remember_0 rfl (lv_at hl 0 rfl) ?_
  refine va_get (D := D) (ci := 6) (v := .ref aq) (C := RX7) (T := TX7) (N := 7) hx hb hts iX7 hown hK hP 0 rfl rfl 4 (by decide) (hts (.fieldLink RX7 29 "SampleTracker$Table" "past" "LSampleTracker$Past;") (by decide +kernel)) (fun _ h9 => h9) rfl dX7_remember_1 ?_
  refine lv_aload_n hx hb dX7_remember_4 rfl (lv_at hl 0 rfl) ?_
  refine va_get (D := D) (ci := 6) (v := .int sa) (C := RX7) (T := TX7) (N := 7) hx hb hts iX7 hown hK hP 0 rfl rfl 5 (by decide) (hts (.fieldLink RX7 33 "SampleTracker$Table" "samples" "I") (by decide +kernel)) (fun _ h9 => h9) rfl dX7_remember_5 ?_
  refine lv_aload_n hx hb dX7_remember_8 rfl (lv_at hl 0 rfl) ?_
  refine va_get (D := D) (ci := 6) (v := .long lo) (C := RX7) (T := TX7) (N := 7) hx hb hts iX7 hown hK hP 0 rfl rfl 6 (by decide) (hts (.fieldLink RX7 37 "SampleTracker$Table" "lost" "J") (by decide +kernel)) (fun _ h9 => h9) rfl dX7_remember_9 ?_
  refine lv_iload_n hx hb dX7_remember_12 rfl (lv_at hl 1 rfl) ?_
  refine lv_aload_n hx hb dX7_remember_13 rfl (lv_at hl 0 rfl) ?_
  refine lv_iload_n hx hb dX7_remember_14 rfl (lv_at hl 1 rfl) ?_
  obtain ⟨r_1, hc_2, hf⟩ := obd hf
  refine ct_V (As := [.int p1]) (rest := [.int p1, .long lo, .int sa, .ref aq]) (wr := []) (wn := [(atb, .inr (6, [.ref tp, .ref tw, .ref tv, .ref tf, .ref aq, .int sa, .long lo])), (tp, .inl (y 1, 121, .inl pa)), (tw, .inl (y 1, 121, .inl we)), (tv, .inl (y 2, 121, .inr (.inl vo))), (tf, .inl (y 3, 121, .inl fm)), (aq, .inr (3, [.ref u0, .ref u1, .ref u2, .ref u3, .ref u4, .int qn])), (u0, .inl (y 1, 256, .inl qs)), (u1, .inl (y 2, 256, .inr (.inl ql))), (u2, .inl (y 1, 256, .inl qt)), (u3, .inl (y 1, 256, .inl qw)), (u4, .inl (y 2, 256, .inr (.inl qv)))]) hfix (cX7_wellOf_ok l D y atb tp tw tv tf aq u0 u1 u2 u3 u4 pa we vo fm sa lo qs ql qt qw qv qn p1 _ hc_2) (cwV 1 hts gX7_remember_X7_wellOf rfl rfl rfl (by decide +kernel) ⟨Nat.le_of_ble_eq_true rfl, Nat.le_of_ble_eq_true rfl⟩) E hP hD hS [0, 1, 2, 3, 4, 5, 6, 7, 8, 9, 10] [] [0, 1, 2, 3, 4, 5, 6, 7, 8, 9, 10] rfl rfl rfl rfl (by decide) rfl rfl 0 6 rfl rfl rfl hl.1 rfl (Nat.le_of_ble_eq_true rfl) dX7_remember_15 ⟨Nat.zero_le _, Nat.zero_le _⟩ (fun H locs hP hD hS => ?_)
  refine W.eq (g2 := F0 m 18 ls [.int r_1, .int p1, .long lo, .int sa, .ref aq]) rfl ?_
  refine lv_aload_n hx hb dX7_remember_18 rfl (lv_at hl 0 rfl) ?_
  refine lv_iload_n hx hb dX7_remember_19 rfl (lv_at hl 1 rfl) ?_
  obtain ⟨r_3, hc_4, hf⟩ := obd hf
  refine ct_V (As := [.int p1]) (rest := [.int r_1, .int p1, .long lo, .int sa, .ref aq]) (wr := []) (wn := [(atb, .inr (6, [.ref tp, .ref tw, .ref tv, .ref tf, .ref aq, .int sa, .long lo])), (tp, .inl (y 1, 121, .inl pa)), (tw, .inl (y 1, 121, .inl we)), (tv, .inl (y 2, 121, .inr (.inl vo))), (tf, .inl (y 3, 121, .inl fm)), (aq, .inr (3, [.ref u0, .ref u1, .ref u2, .ref u3, .ref u4, .int qn])), (u0, .inl (y 1, 256, .inl qs)), (u1, .inl (y 2, 256, .inr (.inl ql))), (u2, .inl (y 1, 256, .inl qt)), (u3, .inl (y 1, 256, .inl qw)), (u4, .inl (y 2, 256, .inr (.inl qv)))]) hfix (cX7_volumeOf_ok l D y atb tp tw tv tf aq u0 u1 u2 u3 u4 pa we vo fm sa lo qs ql qt qw qv qn p1 _ hc_4) (cwV 1 hts gX7_remember_X7_volumeOf rfl rfl rfl (by decide +kernel) ⟨Nat.le_of_ble_eq_true rfl, Nat.le_of_ble_eq_true rfl⟩) E hP hD hS [0, 1, 2, 3, 4, 5, 6, 7, 8, 9, 10] [] [0, 1, 2, 3, 4, 5, 6, 7, 8, 9, 10] rfl rfl rfl rfl (by decide) rfl rfl 0 6 rfl rfl rfl hl.1 rfl (Nat.le_of_ble_eq_true rfl) dX7_remember_20 ⟨Nat.zero_le _, Nat.zero_le _⟩ (fun H locs hP hD hS => ?_)
  refine W.eq (g2 := F0 m 23 ls [.long r_3, .int r_1, .int p1, .long lo, .int sa, .ref aq]) rfl ?_
  obtain ⟨⟨o_qs_5, o_ql_6, o_qt_7, o_qw_8, o_qv_9, o_qn_10⟩, hc_11, hf⟩ := obd hf
  refine ct_V (As := [.int sa, .long lo, .int p1, .int r_1, .long r_3]) (rest := []) (wr := [(atb, .inr (6, [.ref tp, .ref tw, .ref tv, .ref tf, .ref aq, .int sa, .long lo])), (tp, .inl (y 1, 121, .inl pa)), (tw, .inl (y 1, 121, .inl we)), (tv, .inl (y 2, 121, .inr (.inl vo))), (tf, .inl (y 3, 121, .inl fm))]) (wn := [(atb, .inr (6, [.ref tp, .ref tw, .ref tv, .ref tf, .ref aq, .int sa, .long lo])), (tp, .inl (y 1, 121, .inl pa)), (tw, .inl (y 1, 121, .inl we)), (tv, .inl (y 2, 121, .inr (.inl vo))), (tf, .inl (y 3, 121, .inl fm)), (aq, .inr (3, [.ref u0, .ref u1, .ref u2, .ref u3, .ref u4, .int o_qn_10])), (u0, .inl (y 1, 256, .inl o_qs_5)), (u1, .inl (y 2, 256, .inr (.inl o_ql_6))), (u2, .inl (y 1, 256, .inl o_qt_7)), (u3, .inl (y 1, 256, .inl o_qw_8)), (u4, .inl (y 2, 256, .inr (.inl o_qv_9)))]) hfix (cX4_add_ok l D y aq u0 u1 u2 u3 u4 qs ql qt qw qv qn sa lo p1 r_1 r_3 _ hc_11) (cwV 5 hts gX7_remember_X4_add rfl rfl rfl (by decide +kernel) ⟨Nat.le_of_ble_eq_true rfl, Nat.le_of_ble_eq_true rfl⟩) E hP hD hS [5, 6, 7, 8, 9, 10] [0, 1, 2, 3, 4] [0, 1, 2, 3, 4, 5, 6, 7, 8, 9, 10] rfl rfl rfl rfl (by decide) rfl rfl 0 3 rfl rfl rfl hl.1 rfl (Nat.le_of_ble_eq_true rfl) dX7_remember_23 ⟨Nat.zero_le _, Nat.zero_le _⟩ (fun H locs hP hD hS => ?_)
  refine W.eq (g2 := F0 m 26 ls []) rfl ?_
  obtain rfl := Option.some.inj hf
  exact W.vret hx hb hr (fun t ht hW => ⟨⟨(), rfl, by rw [ht]; exact hP, hD⟩, hS.F ht⟩) hS.2.2 dX7_remember_26

def fX7_applyRegister (ew : Int32) (ev : Int64) (pa : Nat → Int32) (we : Nat → Int32) (vo : Nat → Int64) (sa : Int32) (lo : Int64) (qs : Nat → Int32) (ql : Nat → Int64) (qt : Nat → Int32) (qw : Nat → Int32) (qv : Nat → Int64) (qn : Int32) : Option ((Nat → Int32) × (Nat → Int32) × (Nat → Int64) × Int32 × (Nat → Int32) × (Nat → Int64) × (Nat → Int32) × (Nat → Int32) × (Nat → Int64) × Int32) := ((fX7_remember we vo sa lo qs ql qt qw qv qn (0 : Int32)).bind fun (o_qs_1, o_ql_2, o_qt_3, o_qw_4, o_qv_5, o_qn_6) => ((fX7_addSample pa we vo sa (0 : Int32) ew ev).bind fun (o_pa_8, o_we_9, o_vo_10, o_sa_11) => some (o_pa_8, o_we_9, o_vo_10, o_sa_11, o_qs_1, o_ql_2, o_qt_3, o_qw_4, o_qv_5, o_qn_6)))

set_option maxHeartbeats 4000000 in
set_option maxRecDepth 100000 in
theorem cX7_applyRegister_ok (l : Launch) (D : va_G) (y : Nat → ClassId) (atb : Nat) (tp : Nat) (tw : Nat) (tv : Nat) (tf : Nat) (aq : Nat) (u0 : Nat) (u1 : Nat) (u2 : Nat) (u3 : Nat) (u4 : Nat) (ae : Nat) (ek : Int32) (es : Int32) (ew : Int32) (ev : Int64) (pa : Nat → Int32) (we : Nat → Int32) (vo : Nat → Int64) (fm : Nat → Int32) (sa : Int32) (lo : Int64) (qs : Nat → Int32) (ql : Nat → Int64) (qt : Nat → Int32) (qw : Nat → Int32) (qv : Nat → Int64) (qn : Int32) (res : (Nat → Int32) × (Nat → Int32) × (Nat → Int64) × Int32 × (Nat → Int32) × (Nat → Int64) × (Nat → Int32) × (Nat → Int32) × (Nat → Int64) × Int32) (hf : fX7_applyRegister ew ev pa we vo sa lo qs ql qt qw qv qn = some res) : CT l D y yX7_applyRegister wsX7_applyRegister ({ frames := 3, cells := 0, slots := 0, locals := 63 } : Room) [.ref atb, .ref ae] [(atb, .inr (6, [.ref tp, .ref tw, .ref tv, .ref tf, .ref aq, .int sa, .long lo])), (tp, .inl (y 1, 121, .inl pa)), (tw, .inl (y 1, 121, .inl we)), (tv, .inl (y 2, 121, .inr (.inl vo))), (tf, .inl (y 3, 121, .inl fm)), (aq, .inr (3, [.ref u0, .ref u1, .ref u2, .ref u3, .ref u4, .int qn])), (u0, .inl (y 1, 256, .inl qs)), (u1, .inl (y 2, 256, .inr (.inl ql))), (u2, .inl (y 1, 256, .inl qt)), (u3, .inl (y 1, 256, .inl qw)), (u4, .inl (y 2, 256, .inr (.inl qv))), (ae, .inr (1, [.int ek, .int es, .int ew, .long ev]))] (none) [(atb, .inr (6, [.ref tp, .ref tw, .ref tv, .ref tf, .ref aq, .int res.2.2.2.1, .long lo])), (tp, .inl (y 1, 121, .inl res.1)), (tw, .inl (y 1, 121, .inl res.2.1)), (tv, .inl (y 2, 121, .inr (.inl res.2.2.1))), (tf, .inl (y 3, 121, .inl fm)), (aq, .inr (3, [.ref u0, .ref u1, .ref u2, .ref u3, .ref u4, .int res.2.2.2.2.2.2.2.2.2])), (u0, .inl (y 1, 256, .inl res.2.2.2.2.1)), (u1, .inl (y 2, 256, .inr (.inl res.2.2.2.2.2.1))), (u2, .inl (y 1, 256, .inl res.2.2.2.2.2.2.1)), (u3, .inl (y 1, 256, .inl res.2.2.2.2.2.2.2.1)), (u4, .inl (y 2, 256, .inr (.inl res.2.2.2.2.2.2.2.2.1))), (ae, .inr (1, [.int ek, .int es, .int ew, .long ev]))] := by
  intro sz
  refine Met.ofW (cc := cX7_applyRegister) (maxL := 2) (ret := none) (by decide) rfl ?_
  intro p e s m args below meth c s₁ B hml hv
  obtain ⟨rfl, hsz, hP, hK, hD0, hst, hno⟩ := hv
  have hx := B.exec
  have hb := B.bytes
  have hr := B.returns
  have hts := atoms_spec (ws := wsX7_applyRegister) B.pre
  have hown : s.vm.findClass RX7 = some m.cls := findClass_of_methodNamed B.named
  have hlocks := B.notSynchronized
  subst hsz
  have hD := hD0.self (sz := s.heap.size)
  generalize hAe : va_A [(atb, .inr (6, [.ref tp, .ref tw, .ref tv, .ref tf, .ref aq, .int sa, .long lo])), (tp, .inl (y 1, 121, .inl pa)), (tw, .inl (y 1, 121, .inl we)), (tv, .inl (y 2, 121, .inr (.inl vo))), (tf, .inl (y 3, 121, .inl fm)), (aq, .inr (3, [.ref u0, .ref u1, .ref u2, .ref u3, .ref u4, .int qn])), (u0, .inl (y 1, 256, .inl qs)), (u1, .inl (y 2, 256, .inr (.inl ql))), (u2, .inl (y 1, 256, .inl qt)), (u3, .inl (y 1, 256, .inl qw)), (u4, .inl (y 2, 256, .inr (.inl qv))), (ae, .inr (1, [.int ek, .int es, .int ew, .long ev]))] s.heap.size = A at hD hst ⊢
  have hA : ∀ q : Nat, s.heap.size ≤ q → A q := fun q h => by rw [← hAe]; exact Or.inr h
  have hS : va_S A s.heap s.heap [] := va_S.rf
  have E : Ev D y A s := ⟨hK, hst, hno, hA⟩
  have hfix : CallFix p m c cX7_applyRegister 2 s _ wsX7_applyRegister RX7 := ⟨hx, hb, hml, hown, hts⟩
  have hP : va_P D vwCl [(atb, .inr (6, [.ref tp, .ref tw, .ref tv, .ref tf, .ref aq, .int sa, .long lo])), (tp, .inl (y 1, 121, .inl pa)), (tw, .inl (y 1, 121, .inl we)), (tv, .inl (y 2, 121, .inr (.inl vo))), (tf, .inl (y 3, 121, .inl fm)), (aq, .inr (3, [.ref u0, .ref u1, .ref u2, .ref u3, .ref u4, .int qn])), (u0, .inl (y 1, 256, .inl qs)), (u1, .inl (y 2, 256, .inr (.inl ql))), (u2, .inl (y 1, 256, .inl qt)), (u3, .inl (y 1, 256, .inl qw)), (u4, .inl (y 2, 256, .inr (.inl qv))), (ae, .inr (1, [.int ek, .int es, .int ew, .long ev]))] s.heap := hP
  have iX2 : ∀ w ∈ wsX20, w ∈ wsX7_applyRegister := by decide +kernel
  have hl := lv_entry ([.ref atb, .ref ae]) (n := 2) (Nat.le_of_ble_eq_true rfl)
  rw [lg_entry_eq]
  generalize (lg_sl ([.ref atb, .ref ae]) ++ List.replicate (2 - (lg_sl ([.ref atb, .ref ae])).length) Slot.unset).toArray = ls at hl ⊢
  have hl : lv_has ls 2 [(0, .ref atb), (1, .ref ae)] := hl
  unfold fX7_applyRegister at hf
  refine lv_aload_n hx hb dX7_applyRegister_0 rfl (lv_at hl 0 rfl) ?_
  refine lv_iconst (v := (0 : Int32)) hx hb dX7_applyRegister_1 (by decide) ?_
  obtain ⟨⟨o_qs_1, o_ql_2, o_qt_3, o_qw_4, o_qv_5, o_qn_6⟩, hc_7, hf⟩ := obd hf
  refine ct_V (As := [.int (0 : Int32)]) (rest := []) (wr := [(ae, .inr (1, [.int ek, .int es, .int ew, .long ev]))]) (wn := [(atb, .inr (6, [.ref tp, .ref tw, .ref tv, .ref tf, .ref aq, .int sa, .long lo])), (tp, .inl (y 1, 121, .inl pa)), (tw, .inl (y 1, 121, .inl we)), (tv, .inl (y 2, 121, .inr (.inl vo))), (tf, .inl (y 3, 121, .inl fm)), (aq, .inr (3, [.ref u0, .ref u1, .ref u2, .ref u3, .ref u4, .int o_qn_6])), (u0, .inl (y 1, 256, .inl o_qs_1)), (u1, .inl (y 2, 256, .inr (.inl o_ql_2))), (u2, .inl (y 1, 256, .inl o_qt_3)), (u3, .inl (y 1, 256, .inl o_qw_4)), (u4, .inl (y 2, 256, .inr (.inl o_qv_5))), (ae, .inr (1, [.int ek, .int es, .int ew, .long ev]))]) hfix (cX7_remember_ok l D y atb tp tw tv tf aq u0 u1 u2 u3 u4 pa we vo fm sa lo qs ql qt qw qv qn (0 : Int32) _ hc_7) (cwV 1 hts gX7_applyRegister_X7_remember rfl rfl rfl (by decide +kernel) ⟨Nat.le_of_ble_eq_true rfl, Nat.le_of_ble_eq_true rfl⟩) E hP hD hS [0, 1, 2, 3, 4, 5, 6, 7, 8, 9, 10] [11] [1, 2, 3, 4, 5, 6, 7, 8, 9, 10, 11, 0] rfl rfl rfl rfl (by decide) rfl rfl 0 6 rfl rfl rfl hl.1 rfl (Nat.le_of_ble_eq_true rfl) dX7_applyRegister_2 ⟨Nat.zero_le _, Nat.zero_le _⟩ (fun H locs hP hD hS => ?_)
  refine W.eq (g2 := F0 m 5 ls []) rfl ?_
  refine lv_aload_n hx hb dX7_applyRegister_5 rfl (lv_at hl 0 rfl) ?_
  refine lv_iconst (v := (0 : Int32)) hx hb dX7_applyRegister_6 (by decide) ?_
  refine lv_aload_n hx hb dX7_applyRegister_7 rfl (lv_at hl 1 rfl) ?_
  refine va_getN (host := RX8) (D := D) (ci := 1) (v := .int ew) (C := RX2) (T := TX2) (N := 4) hx hb hts iX2 hown hK hP 11 rfl rfl 2 (by decide) (va_Nw.use rfl (E.2.2.1.1 (.fieldLinkNest RX7 113 RX2 "well" "I" RX8) (by decide +kernel))) (fun _ h9 => h9) rfl dX7_applyRegister_8 ?_
  refine lv_aload_n hx hb dX7_applyRegister_11 rfl (lv_at hl 1 rfl) ?_
  refine va_getN (host := RX8) (D := D) (ci := 1) (v := .long ev) (C := RX2) (T := TX2) (N := 4) hx hb hts iX2 hown hK hP 11 rfl rfl 3 (by decide) (va_Nw.use rfl (E.2.2.1.1 (.fieldLinkNest RX7 106 RX2 "volume" "J" RX8) (by decide +kernel))) (fun _ h9 => h9) rfl dX7_applyRegister_12 ?_
  obtain ⟨⟨o_pa_8, o_we_9, o_vo_10, o_sa_11⟩, hc_12, hf⟩ := obd hf
  refine ct_V (As := [.int (0 : Int32), .int ew, .long ev]) (rest := []) (wr := [(ae, .inr (1, [.int ek, .int es, .int ew, .long ev]))]) (wn := [(atb, .inr (6, [.ref tp, .ref tw, .ref tv, .ref tf, .ref aq, .int o_sa_11, .long lo])), (tp, .inl (y 1, 121, .inl o_pa_8)), (tw, .inl (y 1, 121, .inl o_we_9)), (tv, .inl (y 2, 121, .inr (.inl o_vo_10))), (tf, .inl (y 3, 121, .inl fm)), (aq, .inr (3, [.ref u0, .ref u1, .ref u2, .ref u3, .ref u4, .int o_qn_6])), (u0, .inl (y 1, 256, .inl o_qs_1)), (u1, .inl (y 2, 256, .inr (.inl o_ql_2))), (u2, .inl (y 1, 256, .inl o_qt_3)), (u3, .inl (y 1, 256, .inl o_qw_4)), (u4, .inl (y 2, 256, .inr (.inl o_qv_5))), (ae, .inr (1, [.int ek, .int es, .int ew, .long ev]))]) hfix (cX7_addSample_ok l D y atb tp tw tv tf aq u0 u1 u2 u3 u4 pa we vo fm sa lo o_qs_1 o_ql_2 o_qt_3 o_qw_4 o_qv_5 o_qn_6 (0 : Int32) ew ev _ hc_12) (cwV 3 hts gX7_applyRegister_X7_addSample rfl rfl rfl (by decide +kernel) ⟨Nat.le_of_ble_eq_true rfl, Nat.le_of_ble_eq_true rfl⟩) E hP hD hS [0, 1, 2, 3, 4, 5, 6, 7, 8, 9, 10] [11] [1, 2, 3, 4, 5, 6, 7, 8, 9, 10, 11, 0] rfl rfl rfl rfl (by decide) rfl rfl 0 6 rfl rfl rfl hl.1 rfl (Nat.le_of_ble_eq_true rfl) dX7_applyRegister_15 ⟨Nat.zero_le _, Nat.zero_le _⟩ (fun H locs hP hD hS => ?_)
  refine W.eq (g2 := F0 m 18 ls []) rfl ?_
  obtain rfl := Option.some.inj hf
  exact W.vret hx hb hr (fun t ht hW => ⟨⟨(), rfl, by rw [ht]; exact hP, hD⟩, hS.F ht⟩) hS.2.2 dX7_applyRegister_18

def fX7_applyAliquot (es : Int32) (ew : Int32) (ev : Int64) (pa : Nat → Int32) (we : Nat → Int32) (vo : Nat → Int64) (sa : Int32) (lo : Int64) (qs : Nat → Int32) (ql : Nat → Int64) (qt : Nat → Int32) (qw : Nat → Int32) (qv : Nat → Int64) (qn : Int32) : Option ((Nat → Int32) × (Nat → Int32) × (Nat → Int64) × Int32 × (Nat → Int32) × (Nat → Int64) × (Nat → Int32) × (Nat → Int32) × (Nat → Int64) × Int32) := ((fX7_isSample sa es).bind fun r_1 => (if (zb r_1) = 0 then some (pa, we, vo, sa, qs, ql, qt, qw, qv, qn) else ((fX7_remember we vo sa lo qs ql qt qw qv qn es).bind fun (o_qs_4, o_ql_5, o_qt_6, o_qw_7, o_qv_8, o_qn_9) => (if (ib es 121) = true then ((fX7_addSample pa we (vp_updL vo es.toNatClampNeg ((vo es.toNatClampNeg) - ev)) sa es ew ev).bind fun (o_pa_13, o_we_14, o_vo_15, o_sa_16) => some (o_pa_13, o_we_14, o_vo_15, o_sa_16, o_qs_4, o_ql_5, o_qt_6, o_qw_7, o_qv_8, o_qn_9)) else none))))

set_option maxHeartbeats 4000000 in
set_option maxRecDepth 100000 in
theorem cX7_applyAliquot_ok (l : Launch) (D : va_G) (y : Nat → ClassId) (atb : Nat) (tp : Nat) (tw : Nat) (tv : Nat) (tf : Nat) (aq : Nat) (u0 : Nat) (u1 : Nat) (u2 : Nat) (u3 : Nat) (u4 : Nat) (ae : Nat) (ek : Int32) (es : Int32) (ew : Int32) (ev : Int64) (pa : Nat → Int32) (we : Nat → Int32) (vo : Nat → Int64) (fm : Nat → Int32) (sa : Int32) (lo : Int64) (qs : Nat → Int32) (ql : Nat → Int64) (qt : Nat → Int32) (qw : Nat → Int32) (qv : Nat → Int64) (qn : Int32) (res : (Nat → Int32) × (Nat → Int32) × (Nat → Int64) × Int32 × (Nat → Int32) × (Nat → Int64) × (Nat → Int32) × (Nat → Int32) × (Nat → Int64) × Int32) (hf : fX7_applyAliquot es ew ev pa we vo sa lo qs ql qt qw qv qn = some res) : CT l D y yX7_applyAliquot wsX7_applyAliquot ({ frames := 3, cells := 0, slots := 0, locals := 63 } : Room) [.ref atb, .ref ae] [(atb, .inr (6, [.ref tp, .ref tw, .ref tv, .ref tf, .ref aq, .int sa, .long lo])), (tp, .inl (y 1, 121, .inl pa)), (tw, .inl (y 1, 121, .inl we)), (tv, .inl (y 2, 121, .inr (.inl vo))), (tf, .inl (y 3, 121, .inl fm)), (aq, .inr (3, [.ref u0, .ref u1, .ref u2, .ref u3, .ref u4, .int qn])), (u0, .inl (y 1, 256, .inl qs)), (u1, .inl (y 2, 256, .inr (.inl ql))), (u2, .inl (y 1, 256, .inl qt)), (u3, .inl (y 1, 256, .inl qw)), (u4, .inl (y 2, 256, .inr (.inl qv))), (ae, .inr (1, [.int ek, .int es, .int ew, .long ev]))] (none) [(atb, .inr (6, [.ref tp, .ref tw, .ref tv, .ref tf, .ref aq, .int res.2.2.2.1, .long lo])), (tp, .inl (y 1, 121, .inl res.1)), (tw, .inl (y 1, 121, .inl res.2.1)), (tv, .inl (y 2, 121, .inr (.inl res.2.2.1))), (tf, .inl (y 3, 121, .inl fm)), (aq, .inr (3, [.ref u0, .ref u1, .ref u2, .ref u3, .ref u4, .int res.2.2.2.2.2.2.2.2.2])), (u0, .inl (y 1, 256, .inl res.2.2.2.2.1)), (u1, .inl (y 2, 256, .inr (.inl res.2.2.2.2.2.1))), (u2, .inl (y 1, 256, .inl res.2.2.2.2.2.2.1)), (u3, .inl (y 1, 256, .inl res.2.2.2.2.2.2.2.1)), (u4, .inl (y 2, 256, .inr (.inl res.2.2.2.2.2.2.2.2.1))), (ae, .inr (1, [.int ek, .int es, .int ew, .long ev]))] := by
  intro sz
  refine Met.ofW (cc := cX7_applyAliquot) (maxL := 2) (ret := none) (by decide) rfl ?_
  intro p e s m args below meth c s₁ B hml hv
  obtain ⟨rfl, hsz, hP, hK, hD0, hst, hno⟩ := hv
  have hx := B.exec
  have hb := B.bytes
  have hr := B.returns
  have hts := atoms_spec (ws := wsX7_applyAliquot) B.pre
  have hown : s.vm.findClass RX7 = some m.cls := findClass_of_methodNamed B.named
  have hlocks := B.notSynchronized
  subst hsz
  have hD := hD0.self (sz := s.heap.size)
  generalize hAe : va_A [(atb, .inr (6, [.ref tp, .ref tw, .ref tv, .ref tf, .ref aq, .int sa, .long lo])), (tp, .inl (y 1, 121, .inl pa)), (tw, .inl (y 1, 121, .inl we)), (tv, .inl (y 2, 121, .inr (.inl vo))), (tf, .inl (y 3, 121, .inl fm)), (aq, .inr (3, [.ref u0, .ref u1, .ref u2, .ref u3, .ref u4, .int qn])), (u0, .inl (y 1, 256, .inl qs)), (u1, .inl (y 2, 256, .inr (.inl ql))), (u2, .inl (y 1, 256, .inl qt)), (u3, .inl (y 1, 256, .inl qw)), (u4, .inl (y 2, 256, .inr (.inl qv))), (ae, .inr (1, [.int ek, .int es, .int ew, .long ev]))] s.heap.size = A at hD hst ⊢
  have hA : ∀ q : Nat, s.heap.size ≤ q → A q := fun q h => by rw [← hAe]; exact Or.inr h
  have hS : va_S A s.heap s.heap [] := va_S.rf
  have E : Ev D y A s := ⟨hK, hst, hno, hA⟩
  have hfix : CallFix p m c cX7_applyAliquot 2 s _ wsX7_applyAliquot RX7 := ⟨hx, hb, hml, hown, hts⟩
  have hP : va_P D vwCl [(atb, .inr (6, [.ref tp, .ref tw, .ref tv, .ref tf, .ref aq, .int sa, .long lo])), (tp, .inl (y 1, 121, .inl pa)), (tw, .inl (y 1, 121, .inl we)), (tv, .inl (y 2, 121, .inr (.inl vo))), (tf, .inl (y 3, 121, .inl fm)), (aq, .inr (3, [.ref u0, .ref u1, .ref u2, .ref u3, .ref u4, .int qn])), (u0, .inl (y 1, 256, .inl qs)), (u1, .inl (y 2, 256, .inr (.inl ql))), (u2, .inl (y 1, 256, .inl qt)), (u3, .inl (y 1, 256, .inl qw)), (u4, .inl (y 2, 256, .inr (.inl qv))), (ae, .inr (1, [.int ek, .int es, .int ew, .long ev]))] s.heap := hP
  have iX2 : ∀ w ∈ wsX20, w ∈ wsX7_applyAliquot := by decide +kernel
  have iX7 : ∀ w ∈ wsX70, w ∈ wsX7_applyAliquot := by decide +kernel
  have hl := lv_entry ([.ref atb, .ref ae]) (n := 2) (Nat.le_of_ble_eq_true rfl)
  rw [lg_entry_eq]
  generalize (lg_sl ([.ref atb, .ref ae]) ++ List.replicate (2 - (lg_sl ([.ref atb, .ref ae])).length) Slot.unset).toArray = ls at hl ⊢
  have hl : lv_has ls 2 [(0, .ref atb), (1, .ref ae)] := hl
  unfold fX7_applyAliquot at hf
  refine lv_aload_n hx hb dX7_applyAliquot_0 rfl (lv_at hl 0 rfl) ?_
  refine lv_aload_n hx hb dX7_applyAliquot_1 rfl (lv_at hl 1 rfl) ?_
  refine va_getN (host := RX8) (D := D) (ci := 1) (v := .int es) (C := RX2) (T := TX2) (N := 4) hx hb hts iX2 hown hK hP 11 rfl rfl 1 (by decide) (va_Nw.use rfl (E.2.2.1.1 (.fieldLinkNest RX7 120 RX2 "sample" "I" RX8) (by decide +kernel))) (fun _ h9 => h9) rfl dX7_applyAliquot_2 ?_
  obtain ⟨r_1, hc_2, hf⟩ := obd hf
  refine ct_V (As := [.int es]) (rest := []) (wr := [(ae, .inr (1, [.int ek, .int es, .int ew, .long ev]))]) (wn := [(atb, .inr (6, [.ref tp, .ref tw, .ref tv, .ref tf, .ref aq, .int sa, .long lo])), (tp, .inl (y 1, 121, .inl pa)), (tw, .inl (y 1, 121, .inl we)), (tv, .inl (y 2, 121, .inr (.inl vo))), (tf, .inl (y 3, 121, .inl fm)), (aq, .inr (3, [.ref u0, .ref u1, .ref u2, .ref u3, .ref u4, .int qn])), (u0, .inl (y 1, 256, .inl qs)), (u1, .inl (y 2, 256, .inr (.inl ql))), (u2, .inl (y 1, 256, .inl qt)), (u3, .inl (y 1, 256, .inl qw)), (u4, .inl (y 2, 256, .inr (.inl qv))), (ae, .inr (1, [.int ek, .int es, .int ew, .long ev]))]) hfix (cX7_isSample_ok l D y atb tp tw tv tf aq u0 u1 u2 u3 u4 pa we vo fm sa lo qs ql qt qw qv qn es _ hc_2) (cwV 1 hts gX7_applyAliquot_X7_isSample rfl rfl rfl (by decide +kernel) ⟨Nat.le_of_ble_eq_true rfl, Nat.le_of_ble_eq_true rfl⟩) E hP hD hS [0, 1, 2, 3, 4, 5, 6, 7, 8, 9, 10] [11] [1, 2, 3, 4, 5, 6, 7, 8, 9, 10, 11, 0] rfl rfl rfl rfl (by decide) rfl rfl 0 6 rfl rfl rfl hl.1 rfl (Nat.le_of_ble_eq_true rfl) dX7_applyAliquot_5 ⟨Nat.zero_le _, Nat.zero_le _⟩ (fun H locs hP hD hS => ?_)
  refine W.eq (g2 := F0 m 8 ls [.int (zb r_1)]) rfl ?_
  refine lv_if_eq (tgt := 51) hx hb dX7_applyAliquot_8 (by decide) (fun c_3 => ?_) (fun c_3 => ?_)
  · have hf := ifp hf c_3
    obtain rfl := Option.some.inj hf
    exact W.vret hx hb hr (fun t ht hW => ⟨⟨(), rfl, by rw [ht]; exact hP, hD⟩, hS.F ht⟩) hS.2.2 dX7_applyAliquot_51
  · have hf := ifn hf c_3
    refine lv_aload_n hx hb dX7_applyAliquot_11 rfl (lv_at hl 0 rfl) ?_
    refine lv_aload_n hx hb dX7_applyAliquot_12 rfl (lv_at hl 1 rfl) ?_
    refine va_getN (host := RX8) (D := D) (ci := 1) (v := .int es) (C := RX2) (T := TX2) (N := 4) hx hb hts iX2 hown hK hP 11 rfl rfl 1 (by decide) (va_Nw.use rfl (E.2.2.1.1 (.fieldLinkNest RX7 120 RX2 "sample" "I" RX8) (by decide +kernel))) (fun _ h9 => h9) rfl dX7_applyAliquot_13 ?_
    obtain ⟨⟨o_qs_4, o_ql_5, o_qt_6, o_qw_7, o_qv_8, o_qn_9⟩, hc_10, hf⟩ := obd hf
    refine ct_V (As := [.int es]) (rest := []) (wr := [(ae, .inr (1, [.int ek, .int es, .int ew, .long ev]))]) (wn := [(atb, .inr (6, [.ref tp, .ref tw, .ref tv, .ref tf, .ref aq, .int sa, .long lo])), (tp, .inl (y 1, 121, .inl pa)), (tw, .inl (y 1, 121, .inl we)), (tv, .inl (y 2, 121, .inr (.inl vo))), (tf, .inl (y 3, 121, .inl fm)), (aq, .inr (3, [.ref u0, .ref u1, .ref u2, .ref u3, .ref u4, .int o_qn_9])), (u0, .inl (y 1, 256, .inl o_qs_4)), (u1, .inl (y 2, 256, .inr (.inl o_ql_5))), (u2, .inl (y 1, 256, .inl o_qt_6)), (u3, .inl (y 1, 256, .inl o_qw_7)), (u4, .inl (y 2, 256, .inr (.inl o_qv_8))), (ae, .inr (1, [.int ek, .int es, .int ew, .long ev]))]) hfix (cX7_remember_ok l D y atb tp tw tv tf aq u0 u1 u2 u3 u4 pa we vo fm sa lo qs ql qt qw qv qn es _ hc_10) (cwV 1 hts gX7_applyAliquot_X7_remember rfl rfl rfl (by decide +kernel) ⟨Nat.le_of_ble_eq_true rfl, Nat.le_of_ble_eq_true rfl⟩) E hP hD hS [0, 1, 2, 3, 4, 5, 6, 7, 8, 9, 10] [11] [1, 2, 3, 4, 5, 6, 7, 8, 9, 10, 11, 0] rfl rfl rfl rfl (by decide) rfl rfl 0 6 rfl rfl rfl hl.1 rfl (Nat.le_of_ble_eq_true rfl) dX7_applyAliquot_16 ⟨Nat.zero_le _, Nat.zero_le _⟩ (fun H locs hP hD hS => ?_)
    refine W.eq (g2 := F0 m 19 ls []) rfl ?_
    refine lv_aload_n hx hb dX7_applyAliquot_19 rfl (lv_at hl 0 rfl) ?_
    refine va_get (D := D) (ci := 6) (v := .ref tv) (C := RX7) (T := TX7) (N := 7) hx hb hts iX7 hown hK hP 0 rfl rfl 2 (by decide) (hts (.fieldLink RX7 18 "SampleTracker$Table" "volumes" "[J") (by decide +kernel)) (fun _ h9 => h9) rfl dX7_applyAliquot_20 ?_
    refine lv_aload_n hx hb dX7_applyAliquot_23 rfl (lv_at hl 1 rfl) ?_
    refine va_getN (host := RX8) (D := D) (ci := 1) (v := .int es) (C := RX2) (T := TX2) (N := 4) hx hb hts iX2 hown hK hP 11 rfl rfl 1 (by decide) (va_Nw.use rfl (E.2.2.1.1 (.fieldLinkNest RX7 120 RX2 "sample" "I" RX8) (by decide +kernel))) (fun _ h9 => h9) rfl dX7_applyAliquot_24 ?_
    refine lv_dup2_11 hx hb dX7_applyAliquot_27 rfl rfl ?_
    obtain ⟨h_11, hf⟩ := ibk hf
    refine va_lald hx hb hK hP 3 2 rfl rfl (ib_in h_11) dX7_applyAliquot_28 ?_
    refine lv_aload_n hx hb dX7_applyAliquot_29 rfl (lv_at hl 1 rfl) ?_
    refine va_getN (host := RX8) (D := D) (ci := 1) (v := .long ev) (C := RX2) (T := TX2) (N := 4) hx hb hts iX2 hown hK hP 11 rfl rfl 3 (by decide) (va_Nw.use rfl (E.2.2.1.1 (.fieldLinkNest RX7 106 RX2 "volume" "J" RX8) (by decide +kernel))) (fun _ h9 => h9) rfl dX7_applyAliquot_30 ?_
    refine lv_lsub hx hb dX7_applyAliquot_33 ?_
    refine va_last hx hb hK hP hD hS 3 2 rfl rfl (ib_in h_11) dX7_applyAliquot_34 (fun H locs hP hD hS => ?_)
    have hP : va_P D vwCl [(atb, .inr (6, [.ref tp, .ref tw, .ref tv, .ref tf, .ref aq, .int sa, .long lo])), (tp, .inl (y 1, 121, .inl pa)), (tw, .inl (y 1, 121, .inl we)), (tv, .inl (y 2, 121, .inr (.inl (vp_updL vo es.toNatClampNeg ((vo es.toNatClampNeg) - ev))))), (tf, .inl (y 3, 121, .inl fm)), (aq, .inr (3, [.ref u0, .ref u1, .ref u2, .ref u3, .ref u4, .int o_qn_9])), (u0, .inl (y 1, 256, .inl o_qs_4)), (u1, .inl (y 2, 256, .inr (.inl o_ql_5))), (u2, .inl (y 1, 256, .inl o_qt_6)), (u3, .inl (y 1, 256, .inl o_qw_7)), (u4, .inl (y 2, 256, .inr (.inl o_qv_8))), (ae, .inr (1, [.int ek, .int es, .int ew, .long ev]))] H := hP
    have hD : va_D A [(atb, .inr (6, [.ref tp, .ref tw, .ref tv, .ref tf, .ref aq, .int sa, .long lo])), (tp, .inl (y 1, 121, .inl pa)), (tw, .inl (y 1, 121, .inl we)), (tv, .inl (y 2, 121, .inr (.inl (vp_updL vo es.toNatClampNeg ((vo es.toNatClampNeg) - ev))))), (tf, .inl (y 3, 121, .inl fm)), (aq, .inr (3, [.ref u0, .ref u1, .ref u2, .ref u3, .ref u4, .int o_qn_9])), (u0, .inl (y 1, 256, .inl o_qs_4)), (u1, .inl (y 2, 256, .inr (.inl o_ql_5))), (u2, .inl (y 1, 256, .inl o_qt_6)), (u3, .inl (y 1, 256, .inl o_qw_7)), (u4, .inl (y 2, 256, .inr (.inl o_qv_8))), (ae, .inr (1, [.int ek, .int es, .int ew, .long ev]))] := hD
    refine lv_aload_n hx hb dX7_applyAliquot_35 rfl (lv_at hl 0 rfl) ?_
    refine lv_aload_n hx hb dX7_applyAliquot_36 rfl (lv_at hl 1 rfl) ?_
    refine va_getN (host := RX8) (D := D) (ci := 1) (v := .int es) (C := RX2) (T := TX2) (N := 4) hx hb hts iX2 hown hK hP 11 rfl rfl 1 (by decide) (va_Nw.use rfl (E.2.2.1.1 (.fieldLinkNest RX7 120 RX2 "sample" "I" RX8) (by decide +kernel))) (fun _ h9 => h9) rfl dX7_applyAliquot_37 ?_
    refine lv_aload_n hx hb dX7_applyAliquot_40 rfl (lv_at hl 1 rfl) ?_
    refine va_getN (host := RX8) (D := D) (ci := 1) (v := .int ew) (C := RX2) (T := TX2) (N := 4) hx hb hts iX2 hown hK hP 11 rfl rfl 2 (by decide) (va_Nw.use rfl (E.2.2.1.1 (.fieldLinkNest RX7 113 RX2 "well" "I" RX8) (by decide +kernel))) (fun _ h9 => h9) rfl dX7_applyAliquot_41 ?_
    refine lv_aload_n hx hb dX7_applyAliquot_44 rfl (lv_at hl 1 rfl) ?_
    refine va_getN (host := RX8) (D := D) (ci := 1) (v := .long ev) (C := RX2) (T := TX2) (N := 4) hx hb hts iX2 hown hK hP 11 rfl rfl 3 (by decide) (va_Nw.use rfl (E.2.2.1.1 (.fieldLinkNest RX7 106 RX2 "volume" "J" RX8) (by decide +kernel))) (fun _ h9 => h9) rfl dX7_applyAliquot_45 ?_
    obtain ⟨⟨o_pa_13, o_we_14, o_vo_15, o_sa_16⟩, hc_17, hf⟩ := obd hf
    refine ct_V (As := [.int es, .int ew, .long ev]) (rest := []) (wr := [(ae, .inr (1, [.int ek, .int es, .int ew, .long ev]))]) (wn := [(atb, .inr (6, [.ref tp, .ref tw, .ref tv, .ref tf, .ref aq, .int o_sa_16, .long lo])), (tp, .inl (y 1, 121, .inl o_pa_13)), (tw, .inl (y 1, 121, .inl o_we_14)), (tv, .inl (y 2, 121, .inr (.inl o_vo_15))), (tf, .inl (y 3, 121, .inl fm)), (aq, .inr (3, [.ref u0, .ref u1, .ref u2, .ref u3, .ref u4, .int o_qn_9])), (u0, .inl (y 1, 256, .inl o_qs_4)), (u1, .inl (y 2, 256, .inr (.inl o_ql_5))), (u2, .inl (y 1, 256, .inl o_qt_6)), (u3, .inl (y 1, 256, .inl o_qw_7)), (u4, .inl (y 2, 256, .inr (.inl o_qv_8))), (ae, .inr (1, [.int ek, .int es, .int ew, .long ev]))]) hfix (cX7_addSample_ok l D y atb tp tw tv tf aq u0 u1 u2 u3 u4 pa we (vp_updL vo es.toNatClampNeg ((vo es.toNatClampNeg) - ev)) fm sa lo o_qs_4 o_ql_5 o_qt_6 o_qw_7 o_qv_8 o_qn_9 es ew ev _ hc_17) (cwV 3 hts gX7_applyAliquot_X7_addSample rfl rfl rfl (by decide +kernel) ⟨Nat.le_of_ble_eq_true rfl, Nat.le_of_ble_eq_true rfl⟩) E hP hD hS [0, 1, 2, 3, 4, 5, 6, 7, 8, 9, 10] [11] [1, 2, 3, 4, 5, 6, 7, 8, 9, 10, 11, 0] rfl rfl rfl rfl (by decide) rfl rfl 0 6 rfl rfl rfl hl.1 rfl (Nat.le_of_ble_eq_true rfl) dX7_applyAliquot_48 ⟨Nat.zero_le _, Nat.zero_le _⟩ (fun H locs hP hD hS => ?_)
    refine W.eq (g2 := F0 m 51 ls []) rfl ?_
    obtain rfl := Option.some.inj hf
    exact W.vret hx hb hr (fun t ht hW => ⟨⟨(), rfl, by rw [ht]; exact hP, hD⟩, hS.F ht⟩) hS.2.2 dX7_applyAliquot_51

def fX7_applyMove (es : Int32) (ew : Int32) (we : Nat → Int32) (vo : Nat → Int64) (sa : Int32) (lo : Int64) (qs : Nat → Int32) (ql : Nat → Int64) (qt : Nat → Int32) (qw : Nat → Int32) (qv : Nat → Int64) (qn : Int32) : Option ((Nat → Int32) × (Nat → Int32) × (Nat → Int64) × (Nat → Int32) × (Nat → Int32) × (Nat → Int64) × Int32) := ((fX7_isSample sa es).bind fun r_1 => (if (zb r_1) = 0 then some (we, qs, ql, qt, qw, qv, qn) else ((fX7_remember we vo sa lo qs ql qt qw qv qn es).bind fun (o_qs_4, o_ql_5, o_qt_6, o_qw_7, o_qv_8, o_qn_9) => (if (ib es 121) = true then some ((upd we es.toNatClampNeg ew), o_qs_4, o_ql_5, o_qt_6, o_qw_7, o_qv_8, o_qn_9) else none))))

set_option maxHeartbeats 4000000 in
set_option maxRecDepth 100000 in
theorem cX7_applyMove_ok (l : Launch) (D : va_G) (y : Nat → ClassId) (atb : Nat) (tp : Nat) (tw : Nat) (tv : Nat) (tf : Nat) (aq : Nat) (u0 : Nat) (u1 : Nat) (u2 : Nat) (u3 : Nat) (u4 : Nat) (ae : Nat) (ek : Int32) (es : Int32) (ew : Int32) (ev : Int64) (pa : Nat → Int32) (we : Nat → Int32) (vo : Nat → Int64) (fm : Nat → Int32) (sa : Int32) (lo : Int64) (qs : Nat → Int32) (ql : Nat → Int64) (qt : Nat → Int32) (qw : Nat → Int32) (qv : Nat → Int64) (qn : Int32) (res : (Nat → Int32) × (Nat → Int32) × (Nat → Int64) × (Nat → Int32) × (Nat → Int32) × (Nat → Int64) × Int32) (hf : fX7_applyMove es ew we vo sa lo qs ql qt qw qv qn = some res) : CT l D y yX7_applyMove wsX7_applyMove ({ frames := 3, cells := 0, slots := 0, locals := 63 } : Room) [.ref atb, .ref ae] [(atb, .inr (6, [.ref tp, .ref tw, .ref tv, .ref tf, .ref aq, .int sa, .long lo])), (tp, .inl (y 1, 121, .inl pa)), (tw, .inl (y 1, 121, .inl we)), (tv, .inl (y 2, 121, .inr (.inl vo))), (tf, .inl (y 3, 121, .inl fm)), (aq, .inr (3, [.ref u0, .ref u1, .ref u2, .ref u3, .ref u4, .int qn])), (u0, .inl (y 1, 256, .inl qs)), (u1, .inl (y 2, 256, .inr (.inl ql))), (u2, .inl (y 1, 256, .inl qt)), (u3, .inl (y 1, 256, .inl qw)), (u4, .inl (y 2, 256, .inr (.inl qv))), (ae, .inr (1, [.int ek, .int es, .int ew, .long ev]))] (none) [(atb, .inr (6, [.ref tp, .ref tw, .ref tv, .ref tf, .ref aq, .int sa, .long lo])), (tp, .inl (y 1, 121, .inl pa)), (tw, .inl (y 1, 121, .inl res.1)), (tv, .inl (y 2, 121, .inr (.inl vo))), (tf, .inl (y 3, 121, .inl fm)), (aq, .inr (3, [.ref u0, .ref u1, .ref u2, .ref u3, .ref u4, .int res.2.2.2.2.2.2])), (u0, .inl (y 1, 256, .inl res.2.1)), (u1, .inl (y 2, 256, .inr (.inl res.2.2.1))), (u2, .inl (y 1, 256, .inl res.2.2.2.1)), (u3, .inl (y 1, 256, .inl res.2.2.2.2.1)), (u4, .inl (y 2, 256, .inr (.inl res.2.2.2.2.2.1))), (ae, .inr (1, [.int ek, .int es, .int ew, .long ev]))] := by
  intro sz
  refine Met.ofW (cc := cX7_applyMove) (maxL := 2) (ret := none) (by decide) rfl ?_
  intro p e s m args below meth c s₁ B hml hv
  obtain ⟨rfl, hsz, hP, hK, hD0, hst, hno⟩ := hv
  have hx := B.exec
  have hb := B.bytes
  have hr := B.returns
  have hts := atoms_spec (ws := wsX7_applyMove) B.pre
  have hown : s.vm.findClass RX7 = some m.cls := findClass_of_methodNamed B.named
  have hlocks := B.notSynchronized
  subst hsz
  have hD := hD0.self (sz := s.heap.size)
  generalize hAe : va_A [(atb, .inr (6, [.ref tp, .ref tw, .ref tv, .ref tf, .ref aq, .int sa, .long lo])), (tp, .inl (y 1, 121, .inl pa)), (tw, .inl (y 1, 121, .inl we)), (tv, .inl (y 2, 121, .inr (.inl vo))), (tf, .inl (y 3, 121, .inl fm)), (aq, .inr (3, [.ref u0, .ref u1, .ref u2, .ref u3, .ref u4, .int qn])), (u0, .inl (y 1, 256, .inl qs)), (u1, .inl (y 2, 256, .inr (.inl ql))), (u2, .inl (y 1, 256, .inl qt)), (u3, .inl (y 1, 256, .inl qw)), (u4, .inl (y 2, 256, .inr (.inl qv))), (ae, .inr (1, [.int ek, .int es, .int ew, .long ev]))] s.heap.size = A at hD hst ⊢
  have hA : ∀ q : Nat, s.heap.size ≤ q → A q := fun q h => by rw [← hAe]; exact Or.inr h
  have hS : va_S A s.heap s.heap [] := va_S.rf
  have E : Ev D y A s := ⟨hK, hst, hno, hA⟩
  have hfix : CallFix p m c cX7_applyMove 2 s _ wsX7_applyMove RX7 := ⟨hx, hb, hml, hown, hts⟩
  have hP : va_P D vwCl [(atb, .inr (6, [.ref tp, .ref tw, .ref tv, .ref tf, .ref aq, .int sa, .long lo])), (tp, .inl (y 1, 121, .inl pa)), (tw, .inl (y 1, 121, .inl we)), (tv, .inl (y 2, 121, .inr (.inl vo))), (tf, .inl (y 3, 121, .inl fm)), (aq, .inr (3, [.ref u0, .ref u1, .ref u2, .ref u3, .ref u4, .int qn])), (u0, .inl (y 1, 256, .inl qs)), (u1, .inl (y 2, 256, .inr (.inl ql))), (u2, .inl (y 1, 256, .inl qt)), (u3, .inl (y 1, 256, .inl qw)), (u4, .inl (y 2, 256, .inr (.inl qv))), (ae, .inr (1, [.int ek, .int es, .int ew, .long ev]))] s.heap := hP
  have iX2 : ∀ w ∈ wsX20, w ∈ wsX7_applyMove := by decide +kernel
  have iX7 : ∀ w ∈ wsX70, w ∈ wsX7_applyMove := by decide +kernel
  have hl := lv_entry ([.ref atb, .ref ae]) (n := 2) (Nat.le_of_ble_eq_true rfl)
  rw [lg_entry_eq]
  generalize (lg_sl ([.ref atb, .ref ae]) ++ List.replicate (2 - (lg_sl ([.ref atb, .ref ae])).length) Slot.unset).toArray = ls at hl ⊢
  have hl : lv_has ls 2 [(0, .ref atb), (1, .ref ae)] := hl
  unfold fX7_applyMove at hf
  refine lv_aload_n hx hb dX7_applyMove_0 rfl (lv_at hl 0 rfl) ?_
  refine lv_aload_n hx hb dX7_applyMove_1 rfl (lv_at hl 1 rfl) ?_
  refine va_getN (host := RX8) (D := D) (ci := 1) (v := .int es) (C := RX2) (T := TX2) (N := 4) hx hb hts iX2 hown hK hP 11 rfl rfl 1 (by decide) (va_Nw.use rfl (E.2.2.1.1 (.fieldLinkNest RX7 120 RX2 "sample" "I" RX8) (by decide +kernel))) (fun _ h9 => h9) rfl dX7_applyMove_2 ?_
  obtain ⟨r_1, hc_2, hf⟩ := obd hf
  refine ct_V (As := [.int es]) (rest := []) (wr := [(ae, .inr (1, [.int ek, .int es, .int ew, .long ev]))]) (wn := [(atb, .inr (6, [.ref tp, .ref tw, .ref tv, .ref tf, .ref aq, .int sa, .long lo])), (tp, .inl (y 1, 121, .inl pa)), (tw, .inl (y 1, 121, .inl we)), (tv, .inl (y 2, 121, .inr (.inl vo))), (tf, .inl (y 3, 121, .inl fm)), (aq, .inr (3, [.ref u0, .ref u1, .ref u2, .ref u3, .ref u4, .int qn])), (u0, .inl (y 1, 256, .inl qs)), (u1, .inl (y 2, 256, .inr (.inl ql))), (u2, .inl (y 1, 256, .inl qt)), (u3, .inl (y 1, 256, .inl qw)), (u4, .inl (y 2, 256, .inr (.inl qv))), (ae, .inr (1, [.int ek, .int es, .int ew, .long ev]))]) hfix (cX7_isSample_ok l D y atb tp tw tv tf aq u0 u1 u2 u3 u4 pa we vo fm sa lo qs ql qt qw qv qn es _ hc_2) (cwV 1 hts gX7_applyMove_X7_isSample rfl rfl rfl (by decide +kernel) ⟨Nat.le_of_ble_eq_true rfl, Nat.le_of_ble_eq_true rfl⟩) E hP hD hS [0, 1, 2, 3, 4, 5, 6, 7, 8, 9, 10] [11] [1, 2, 3, 4, 5, 6, 7, 8, 9, 10, 11, 0] rfl rfl rfl rfl (by decide) rfl rfl 0 6 rfl rfl rfl hl.1 rfl (Nat.le_of_ble_eq_true rfl) dX7_applyMove_5 ⟨Nat.zero_le _, Nat.zero_le _⟩ (fun H locs hP hD hS => ?_)
  refine W.eq (g2 := F0 m 8 ls [.int (zb r_1)]) rfl ?_
  refine lv_if_eq (tgt := 32) hx hb dX7_applyMove_8 (by decide) (fun c_3 => ?_) (fun c_3 => ?_)
  · have hf := ifp hf c_3
    obtain rfl := Option.some.inj hf
    exact W.vret hx hb hr (fun t ht hW => ⟨⟨(), rfl, by rw [ht]; exact hP, hD⟩, hS.F ht⟩) hS.2.2 dX7_applyMove_32
  · have hf := ifn hf c_3
    refine lv_aload_n hx hb dX7_applyMove_11 rfl (lv_at hl 0 rfl) ?_
    refine lv_aload_n hx hb dX7_applyMove_12 rfl (lv_at hl 1 rfl) ?_
    refine va_getN (host := RX8) (D := D) (ci := 1) (v := .int es) (C := RX2) (T := TX2) (N := 4) hx hb hts iX2 hown hK hP 11 rfl rfl 1 (by decide) (va_Nw.use rfl (E.2.2.1.1 (.fieldLinkNest RX7 120 RX2 "sample" "I" RX8) (by decide +kernel))) (fun _ h9 => h9) rfl dX7_applyMove_13 ?_
    obtain ⟨⟨o_qs_4, o_ql_5, o_qt_6, o_qw_7, o_qv_8, o_qn_9⟩, hc_10, hf⟩ := obd hf
    refine ct_V (As := [.int es]) (rest := []) (wr := [(ae, .inr (1, [.int ek, .int es, .int ew, .long ev]))]) (wn := [(atb, .inr (6, [.ref tp, .ref tw, .ref tv, .ref tf, .ref aq, .int sa, .long lo])), (tp, .inl (y 1, 121, .inl pa)), (tw, .inl (y 1, 121, .inl we)), (tv, .inl (y 2, 121, .inr (.inl vo))), (tf, .inl (y 3, 121, .inl fm)), (aq, .inr (3, [.ref u0, .ref u1, .ref u2, .ref u3, .ref u4, .int o_qn_9])), (u0, .inl (y 1, 256, .inl o_qs_4)), (u1, .inl (y 2, 256, .inr (.inl o_ql_5))), (u2, .inl (y 1, 256, .inl o_qt_6)), (u3, .inl (y 1, 256, .inl o_qw_7)), (u4, .inl (y 2, 256, .inr (.inl o_qv_8))), (ae, .inr (1, [.int ek, .int es, .int ew, .long ev]))]) hfix (cX7_remember_ok l D y atb tp tw tv tf aq u0 u1 u2 u3 u4 pa we vo fm sa lo qs ql qt qw qv qn es _ hc_10) (cwV 1 hts gX7_applyMove_X7_remember rfl rfl rfl (by decide +kernel) ⟨Nat.le_of_ble_eq_true rfl, Nat.le_of_ble_eq_true rfl⟩) E hP hD hS [0, 1, 2, 3, 4, 5, 6, 7, 8, 9, 10] [11] [1, 2, 3, 4, 5, 6, 7, 8, 9, 10, 11, 0] rfl rfl rfl rfl (by decide) rfl rfl 0 6 rfl rfl rfl hl.1 rfl (Nat.le_of_ble_eq_true rfl) dX7_applyMove_16 ⟨Nat.zero_le _, Nat.zero_le _⟩ (fun H locs hP hD hS => ?_)
    refine W.eq (g2 := F0 m 19 ls []) rfl ?_
    refine lv_aload_n hx hb dX7_applyMove_19 rfl (lv_at hl 0 rfl) ?_
    refine va_get (D := D) (ci := 6) (v := .ref tw) (C := RX7) (T := TX7) (N := 7) hx hb hts iX7 hown hK hP 0 rfl rfl 1 (by decide) (hts (.fieldLink RX7 15 "SampleTracker$Table" "wells" "[I") (by decide +kernel)) (fun _ h9 => h9) rfl dX7_applyMove_20 ?_
    refine lv_aload_n hx hb dX7_applyMove_23 rfl (lv_at hl 1 rfl) ?_
    refine va_getN (host := RX8) (D := D) (ci := 1) (v := .int es) (C := RX2) (T := TX2) (N := 4) hx hb hts iX2 hown hK hP 11 rfl rfl 1 (by decide) (va_Nw.use rfl (E.2.2.1.1 (.fieldLinkNest RX7 120 RX2 "sample" "I" RX8) (by decide +kernel))) (fun _ h9 => h9) rfl dX7_applyMove_24 ?_
    refine lv_aload_n hx hb dX7_applyMove_27 rfl (lv_at hl 1 rfl) ?_
    refine va_getN (host := RX8) (D := D) (ci := 1) (v := .int ew) (C := RX2) (T := TX2) (N := 4) hx hb hts iX2 hown hK hP 11 rfl rfl 2 (by decide) (va_Nw.use rfl (E.2.2.1.1 (.fieldLinkNest RX7 113 RX2 "well" "I" RX8) (by decide +kernel))) (fun _ h9 => h9) rfl dX7_applyMove_28 ?_
    obtain ⟨h_11, hf⟩ := ibk hf
    refine va_iast hx hb hK hP hD hS 2 1 rfl rfl (ib_in h_11) dX7_applyMove_31 (fun H locs hP hD hS => ?_)
    have hP : va_P D vwCl [(atb, .inr (6, [.ref tp, .ref tw, .ref tv, .ref tf, .ref aq, .int sa, .long lo])), (tp, .inl (y 1, 121, .inl pa)), (tw, .inl (y 1, 121, .inl (upd we es.toNatClampNeg ew))), (tv, .inl (y 2, 121, .inr (.inl vo))), (tf, .inl (y 3, 121, .inl fm)), (aq, .inr (3, [.ref u0, .ref u1, .ref u2, .ref u3, .ref u4, .int o_qn_9])), (u0, .inl (y 1, 256, .inl o_qs_4)), (u1, .inl (y 2, 256, .inr (.inl o_ql_5))), (u2, .inl (y 1, 256, .inl o_qt_6)), (u3, .inl (y 1, 256, .inl o_qw_7)), (u4, .inl (y 2, 256, .inr (.inl o_qv_8))), (ae, .inr (1, [.int ek, .int es, .int ew, .long ev]))] H := hP
    have hD : va_D A [(atb, .inr (6, [.ref tp, .ref tw, .ref tv, .ref tf, .ref aq, .int sa, .long lo])), (tp, .inl (y 1, 121, .inl pa)), (tw, .inl (y 1, 121, .inl (upd we es.toNatClampNeg ew))), (tv, .inl (y 2, 121, .inr (.inl vo))), (tf, .inl (y 3, 121, .inl fm)), (aq, .inr (3, [.ref u0, .ref u1, .ref u2, .ref u3, .ref u4, .int o_qn_9])), (u0, .inl (y 1, 256, .inl o_qs_4)), (u1, .inl (y 2, 256, .inr (.inl o_ql_5))), (u2, .inl (y 1, 256, .inl o_qt_6)), (u3, .inl (y 1, 256, .inl o_qw_7)), (u4, .inl (y 2, 256, .inr (.inl o_qv_8))), (ae, .inr (1, [.int ek, .int es, .int ew, .long ev]))] := hD
    obtain rfl := Option.some.inj hf
    exact W.vret hx hb hr (fun t ht hW => ⟨⟨(), rfl, by rw [ht]; exact hP, hD⟩, hS.F ht⟩) hS.2.2 dX7_applyMove_32

def fX7_applyDiscard (es : Int32) (we : Nat → Int32) (vo : Nat → Int64) (sa : Int32) (lo : Int64) (qs : Nat → Int32) (ql : Nat → Int64) (qt : Nat → Int32) (qw : Nat → Int32) (qv : Nat → Int64) (qn : Int32) : Option ((Nat → Int32) × (Nat → Int64) × Int64 × (Nat → Int32) × (Nat → Int64) × (Nat → Int32) × (Nat → Int32) × (Nat → Int64) × Int32) := ((fX7_isSample sa es).bind fun r_1 => (if (zb r_1) = 0 then some (we, vo, lo, qs, ql, qt, qw, qv, qn) else ((fX7_remember we vo sa lo qs ql qt qw qv qn es).bind fun (o_qs_4, o_ql_5, o_qt_6, o_qw_7, o_qv_8, o_qn_9) => (if (ib es 121) = true then some ((upd we es.toNatClampNeg (-1 : Int32)), (vp_updL vo es.toNatClampNeg (0 : Int64)), (lo + (vo es.toNatClampNeg)), o_qs_4, o_ql_5, o_qt_6, o_qw_7, o_qv_8, o_qn_9) else none))))

set_option maxHeartbeats 4000000 in
set_option maxRecDepth 100000 in
theorem cX7_applyDiscard_ok (l : Launch) (D : va_G) (y : Nat → ClassId) (atb : Nat) (tp : Nat) (tw : Nat) (tv : Nat) (tf : Nat) (aq : Nat) (u0 : Nat) (u1 : Nat) (u2 : Nat) (u3 : Nat) (u4 : Nat) (ae : Nat) (ek : Int32) (es : Int32) (ew : Int32) (ev : Int64) (pa : Nat → Int32) (we : Nat → Int32) (vo : Nat → Int64) (fm : Nat → Int32) (sa : Int32) (lo : Int64) (qs : Nat → Int32) (ql : Nat → Int64) (qt : Nat → Int32) (qw : Nat → Int32) (qv : Nat → Int64) (qn : Int32) (res : (Nat → Int32) × (Nat → Int64) × Int64 × (Nat → Int32) × (Nat → Int64) × (Nat → Int32) × (Nat → Int32) × (Nat → Int64) × Int32) (hf : fX7_applyDiscard es we vo sa lo qs ql qt qw qv qn = some res) : CT l D y yX7_applyDiscard wsX7_applyDiscard ({ frames := 3, cells := 0, slots := 0, locals := 63 } : Room) [.ref atb, .ref ae] [(atb, .inr (6, [.ref tp, .ref tw, .ref tv, .ref tf, .ref aq, .int sa, .long lo])), (tp, .inl (y 1, 121, .inl pa)), (tw, .inl (y 1, 121, .inl we)), (tv, .inl (y 2, 121, .inr (.inl vo))), (tf, .inl (y 3, 121, .inl fm)), (aq, .inr (3, [.ref u0, .ref u1, .ref u2, .ref u3, .ref u4, .int qn])), (u0, .inl (y 1, 256, .inl qs)), (u1, .inl (y 2, 256, .inr (.inl ql))), (u2, .inl (y 1, 256, .inl qt)), (u3, .inl (y 1, 256, .inl qw)), (u4, .inl (y 2, 256, .inr (.inl qv))), (ae, .inr (1, [.int ek, .int es, .int ew, .long ev]))] (none) [(atb, .inr (6, [.ref tp, .ref tw, .ref tv, .ref tf, .ref aq, .int sa, .long res.2.2.1])), (tp, .inl (y 1, 121, .inl pa)), (tw, .inl (y 1, 121, .inl res.1)), (tv, .inl (y 2, 121, .inr (.inl res.2.1))), (tf, .inl (y 3, 121, .inl fm)), (aq, .inr (3, [.ref u0, .ref u1, .ref u2, .ref u3, .ref u4, .int res.2.2.2.2.2.2.2.2])), (u0, .inl (y 1, 256, .inl res.2.2.2.1)), (u1, .inl (y 2, 256, .inr (.inl res.2.2.2.2.1))), (u2, .inl (y 1, 256, .inl res.2.2.2.2.2.1)), (u3, .inl (y 1, 256, .inl res.2.2.2.2.2.2.1)), (u4, .inl (y 2, 256, .inr (.inl res.2.2.2.2.2.2.2.1))), (ae, .inr (1, [.int ek, .int es, .int ew, .long ev]))] := by
  intro sz
  refine Met.ofW (cc := cX7_applyDiscard) (maxL := 2) (ret := none) (by decide) rfl ?_
  intro p e s m args below meth c s₁ B hml hv
  obtain ⟨rfl, hsz, hP, hK, hD0, hst, hno⟩ := hv
  have hx := B.exec
  have hb := B.bytes
  have hr := B.returns
  have hts := atoms_spec (ws := wsX7_applyDiscard) B.pre
  have hown : s.vm.findClass RX7 = some m.cls := findClass_of_methodNamed B.named
  have hlocks := B.notSynchronized
  subst hsz
  have hD := hD0.self (sz := s.heap.size)
  generalize hAe : va_A [(atb, .inr (6, [.ref tp, .ref tw, .ref tv, .ref tf, .ref aq, .int sa, .long lo])), (tp, .inl (y 1, 121, .inl pa)), (tw, .inl (y 1, 121, .inl we)), (tv, .inl (y 2, 121, .inr (.inl vo))), (tf, .inl (y 3, 121, .inl fm)), (aq, .inr (3, [.ref u0, .ref u1, .ref u2, .ref u3, .ref u4, .int qn])), (u0, .inl (y 1, 256, .inl qs)), (u1, .inl (y 2, 256, .inr (.inl ql))), (u2, .inl (y 1, 256, .inl qt)), (u3, .inl (y 1, 256, .inl qw)), (u4, .inl (y 2, 256, .inr (.inl qv))), (ae, .inr (1, [.int ek, .int es, .int ew, .long ev]))] s.heap.size = A at hD hst ⊢
  have hA : ∀ q : Nat, s.heap.size ≤ q → A q := fun q h => by rw [← hAe]; exact Or.inr h
  have hS : va_S A s.heap s.heap [] := va_S.rf
  have E : Ev D y A s := ⟨hK, hst, hno, hA⟩
  have hfix : CallFix p m c cX7_applyDiscard 2 s _ wsX7_applyDiscard RX7 := ⟨hx, hb, hml, hown, hts⟩
  have hP : va_P D vwCl [(atb, .inr (6, [.ref tp, .ref tw, .ref tv, .ref tf, .ref aq, .int sa, .long lo])), (tp, .inl (y 1, 121, .inl pa)), (tw, .inl (y 1, 121, .inl we)), (tv, .inl (y 2, 121, .inr (.inl vo))), (tf, .inl (y 3, 121, .inl fm)), (aq, .inr (3, [.ref u0, .ref u1, .ref u2, .ref u3, .ref u4, .int qn])), (u0, .inl (y 1, 256, .inl qs)), (u1, .inl (y 2, 256, .inr (.inl ql))), (u2, .inl (y 1, 256, .inl qt)), (u3, .inl (y 1, 256, .inl qw)), (u4, .inl (y 2, 256, .inr (.inl qv))), (ae, .inr (1, [.int ek, .int es, .int ew, .long ev]))] s.heap := hP
  have iX2 : ∀ w ∈ wsX20, w ∈ wsX7_applyDiscard := by decide +kernel
  have iX7 : ∀ w ∈ wsX70, w ∈ wsX7_applyDiscard := by decide +kernel
  have hl := lv_entry ([.ref atb, .ref ae]) (n := 2) (Nat.le_of_ble_eq_true rfl)
  rw [lg_entry_eq]
  generalize (lg_sl ([.ref atb, .ref ae]) ++ List.replicate (2 - (lg_sl ([.ref atb, .ref ae])).length) Slot.unset).toArray = ls at hl ⊢
  have hl : lv_has ls 2 [(0, .ref atb), (1, .ref ae)] := hl
  unfold fX7_applyDiscard at hf
  refine lv_aload_n hx hb dX7_applyDiscard_0 rfl (lv_at hl 0 rfl) ?_
  refine lv_aload_n hx hb dX7_applyDiscard_1 rfl (lv_at hl 1 rfl) ?_
  refine va_getN (host := RX8) (D := D) (ci := 1) (v := .int es) (C := RX2) (T := TX2) (N := 4) hx hb hts iX2 hown hK hP 11 rfl rfl 1 (by decide) (va_Nw.use rfl (E.2.2.1.1 (.fieldLinkNest RX7 120 RX2 "sample" "I" RX8) (by decide +kernel))) (fun _ h9 => h9) rfl dX7_applyDiscard_2 ?_
  obtain ⟨r_1, hc_2, hf⟩ := obd hf
  refine ct_V (As := [.int es]) (rest := []) (wr := [(ae, .inr (1, [.int ek, .int es, .int ew, .long ev]))]) (wn := [(atb, .inr (6, [.ref tp, .ref tw, .ref tv, .ref tf, .ref aq, .int sa, .long lo])), (tp, .inl (y 1, 121, .inl pa)), (tw, .inl (y 1, 121, .inl we)), (tv, .inl (y 2, 121, .inr (.inl vo))), (tf, .inl (y 3, 121, .inl fm)), (aq, .inr (3, [.ref u0, .ref u1, .ref u2, .ref u3, .ref u4, .int qn])), (u0, .inl (y 1, 256, .inl qs)), (u1, .inl (y 2, 256, .inr (.inl ql))), (u2, .inl (y 1, 256, .inl qt)), (u3, .inl (y 1, 256, .inl qw)), (u4, .inl (y 2, 256, .inr (.inl qv))), (ae, .inr (1, [.int ek, .int es, .int ew, .long ev]))]) hfix (cX7_isSample_ok l D y atb tp tw tv tf aq u0 u1 u2 u3 u4 pa we vo fm sa lo qs ql qt qw qv qn es _ hc_2) (cwV 1 hts gX7_applyDiscard_X7_isSample rfl rfl rfl (by decide +kernel) ⟨Nat.le_of_ble_eq_true rfl, Nat.le_of_ble_eq_true rfl⟩) E hP hD hS [0, 1, 2, 3, 4, 5, 6, 7, 8, 9, 10] [11] [1, 2, 3, 4, 5, 6, 7, 8, 9, 10, 11, 0] rfl rfl rfl rfl (by decide) rfl rfl 0 6 rfl rfl rfl hl.1 rfl (Nat.le_of_ble_eq_true rfl) dX7_applyDiscard_5 ⟨Nat.zero_le _, Nat.zero_le _⟩ (fun H locs hP hD hS => ?_)
  refine W.eq (g2 := F0 m 8 ls [.int (zb r_1)]) rfl ?_
  refine lv_if_eq (tgt := 57) hx hb dX7_applyDiscard_8 (by decide) (fun c_3 => ?_) (fun c_3 => ?_)
  · have hf := ifp hf c_3
    obtain rfl := Option.some.inj hf
    exact W.vret hx hb hr (fun t ht hW => ⟨⟨(), rfl, by rw [ht]; exact hP, hD⟩, hS.F ht⟩) hS.2.2 dX7_applyDiscard_57
  · have hf := ifn hf c_3
    refine lv_aload_n hx hb dX7_applyDiscard_11 rfl (lv_at hl 0 rfl) ?_
    refine lv_aload_n hx hb dX7_applyDiscard_12 rfl (lv_at hl 1 rfl) ?_
    refine va_getN (host := RX8) (D := D) (ci := 1) (v := .int es) (C := RX2) (T := TX2) (N := 4) hx hb hts iX2 hown hK hP 11 rfl rfl 1 (by decide) (va_Nw.use rfl (E.2.2.1.1 (.fieldLinkNest RX7 120 RX2 "sample" "I" RX8) (by decide +kernel))) (fun _ h9 => h9) rfl dX7_applyDiscard_13 ?_
    obtain ⟨⟨o_qs_4, o_ql_5, o_qt_6, o_qw_7, o_qv_8, o_qn_9⟩, hc_10, hf⟩ := obd hf
    refine ct_V (As := [.int es]) (rest := []) (wr := [(ae, .inr (1, [.int ek, .int es, .int ew, .long ev]))]) (wn := [(atb, .inr (6, [.ref tp, .ref tw, .ref tv, .ref tf, .ref aq, .int sa, .long lo])), (tp, .inl (y 1, 121, .inl pa)), (tw, .inl (y 1, 121, .inl we)), (tv, .inl (y 2, 121, .inr (.inl vo))), (tf, .inl (y 3, 121, .inl fm)), (aq, .inr (3, [.ref u0, .ref u1, .ref u2, .ref u3, .ref u4, .int o_qn_9])), (u0, .inl (y 1, 256, .inl o_qs_4)), (u1, .inl (y 2, 256, .inr (.inl o_ql_5))), (u2, .inl (y 1, 256, .inl o_qt_6)), (u3, .inl (y 1, 256, .inl o_qw_7)), (u4, .inl (y 2, 256, .inr (.inl o_qv_8))), (ae, .inr (1, [.int ek, .int es, .int ew, .long ev]))]) hfix (cX7_remember_ok l D y atb tp tw tv tf aq u0 u1 u2 u3 u4 pa we vo fm sa lo qs ql qt qw qv qn es _ hc_10) (cwV 1 hts gX7_applyDiscard_X7_remember rfl rfl rfl (by decide +kernel) ⟨Nat.le_of_ble_eq_true rfl, Nat.le_of_ble_eq_true rfl⟩) E hP hD hS [0, 1, 2, 3, 4, 5, 6, 7, 8, 9, 10] [11] [1, 2, 3, 4, 5, 6, 7, 8, 9, 10, 11, 0] rfl rfl rfl rfl (by decide) rfl rfl 0 6 rfl rfl rfl hl.1 rfl (Nat.le_of_ble_eq_true rfl) dX7_applyDiscard_16 ⟨Nat.zero_le _, Nat.zero_le _⟩ (fun H locs hP hD hS => ?_)
    refine W.eq (g2 := F0 m 19 ls []) rfl ?_
    refine lv_aload_n hx hb dX7_applyDiscard_19 rfl (lv_at hl 0 rfl) ?_
    refine lv_dup hx hb dX7_applyDiscard_20 rfl ?_
    refine va_get (D := D) (ci := 6) (v := .long lo) (C := RX7) (T := TX7) (N := 7) hx hb hts iX7 hown hK hP 0 rfl rfl 6 (by decide) (hts (.fieldLink RX7 37 "SampleTracker$Table" "lost" "J") (by decide +kernel)) (fun _ h9 => h9) rfl dX7_applyDiscard_21 ?_
    refine lv_aload_n hx hb dX7_applyDiscard_24 rfl (lv_at hl 0 rfl) ?_
    refine va_get (D := D) (ci := 6) (v := .ref tv) (C := RX7) (T := TX7) (N := 7) hx hb hts iX7 hown hK hP 0 rfl rfl 2 (by decide) (hts (.fieldLink RX7 18 "SampleTracker$Table" "volumes" "[J") (by decide +kernel)) (fun _ h9 => h9) rfl dX7_applyDiscard_25 ?_
    refine lv_aload_n hx hb dX7_applyDiscard_28 rfl (lv_at hl 1 rfl) ?_
    refine va_getN (host := RX8) (D := D) (ci := 1) (v := .int es) (C := RX2) (T := TX2) (N := 4) hx hb hts iX2 hown hK hP 11 rfl rfl 1 (by decide) (va_Nw.use rfl (E.2.2.1.1 (.fieldLinkNest RX7 120 RX2 "sample" "I" RX8) (by decide +kernel))) (fun _ h9 => h9) rfl dX7_applyDiscard_29 ?_
    obtain ⟨h_11, hf⟩ := ibk hf
    refine va_lald hx hb hK hP 3 2 rfl rfl (ib_in h_11) dX7_applyDiscard_32 ?_
    refine lv_ladd hx hb dX7_applyDiscard_33 ?_
    refine va_put (D := D) (ci := 6) (v := .long (lo + (vo es.toNatClampNeg))) (ty := .long) (C := RX7) (T := TX7) (N := 7) hx hb hts iX7 tyX7 tyX7_ok nmX7 hown hK hP hD hS 0 rfl rfl 6 (by decide) (hts (.fieldLink RX7 37 "SampleTracker$Table" "lost" "J") (by decide +kernel)) (fun _ h9 => h9) rfl (by decide +kernel) rfl rfl (Nat.le_of_ble_eq_true rfl) dX7_applyDiscard_34 (fun H locs hP hD hS => ?_)
    have hP : va_P D vwCl [(atb, .inr (6, [.ref tp, .ref tw, .ref tv, .ref tf, .ref aq, .int sa, .long (lo + (vo es.toNatClampNeg))])), (tp, .inl (y 1, 121, .inl pa)), (tw, .inl (y 1, 121, .inl we)), (tv, .inl (y 2, 121, .inr (.inl vo))), (tf, .inl (y 3, 121, .inl fm)), (aq, .inr (3, [.ref u0, .ref u1, .ref u2, .ref u3, .ref u4, .int o_qn_9])), (u0, .inl (y 1, 256, .inl o_qs_4)), (u1, .inl (y 2, 256, .inr (.inl o_ql_5))), (u2, .inl (y 1, 256, .inl o_qt_6)), (u3, .inl (y 1, 256, .inl o_qw_7)), (u4, .inl (y 2, 256, .inr (.inl o_qv_8))), (ae, .inr (1, [.int ek, .int es, .int ew, .long ev]))] H := hP
    have hD : va_D A [(atb, .inr (6, [.ref tp, .ref tw, .ref tv, .ref tf, .ref aq, .int sa, .long (lo + (vo es.toNatClampNeg))])), (tp, .inl (y 1, 121, .inl pa)), (tw, .inl (y 1, 121, .inl we)), (tv, .inl (y 2, 121, .inr (.inl vo))), (tf, .inl (y 3, 121, .inl fm)), (aq, .inr (3, [.ref u0, .ref u1, .ref u2, .ref u3, .ref u4, .int o_qn_9])), (u0, .inl (y 1, 256, .inl o_qs_4)), (u1, .inl (y 2, 256, .inr (.inl o_ql_5))), (u2, .inl (y 1, 256, .inl o_qt_6)), (u3, .inl (y 1, 256, .inl o_qw_7)), (u4, .inl (y 2, 256, .inr (.inl o_qv_8))), (ae, .inr (1, [.int ek, .int es, .int ew, .long ev]))] := hD
    refine lv_aload_n hx hb dX7_applyDiscard_37 rfl (lv_at hl 0 rfl) ?_
    refine va_get (D := D) (ci := 6) (v := .ref tv) (C := RX7) (T := TX7) (N := 7) hx hb hts iX7 hown hK hP 0 rfl rfl 2 (by decide) (hts (.fieldLink RX7 18 "SampleTracker$Table" "volumes" "[J") (by decide +kernel)) (fun _ h9 => h9) rfl dX7_applyDiscard_38 ?_
    refine lv_aload_n hx hb dX7_applyDiscard_41 rfl (lv_at hl 1 rfl) ?_
    refine va_getN (host := RX8) (D := D) (ci := 1) (v := .int es) (C := RX2) (T := TX2) (N := 4) hx hb hts iX2 hown hK hP 11 rfl rfl 1 (by decide) (va_Nw.use rfl (E.2.2.1.1 (.fieldLinkNest RX7 120 RX2 "sample" "I" RX8) (by decide +kernel))) (fun _ h9 => h9) rfl dX7_applyDiscard_42 ?_
    refine lv_lconst (v := (0 : Int64)) hx hb dX7_applyDiscard_45 (by decide) ?_
    refine va_last hx hb hK hP hD hS 3 2 rfl rfl (ib_in h_11) dX7_applyDiscard_46 (fun H locs hP hD hS => ?_)
    have hP : va_P D vwCl [(atb, .inr (6, [.ref tp, .ref tw, .ref tv, .ref tf, .ref aq, .int sa, .long (lo + (vo es.toNatClampNeg))])), (tp, .inl (y 1, 121, .inl pa)), (tw, .inl (y 1, 121, .inl we)), (tv, .inl (y 2, 121, .inr (.inl (vp_updL vo es.toNatClampNeg (0 : Int64))))), (tf, .inl (y 3, 121, .inl fm)), (aq, .inr (3, [.ref u0, .ref u1, .ref u2, .ref u3, .ref u4, .int o_qn_9])), (u0, .inl (y 1, 256, .inl o_qs_4)), (u1, .inl (y 2, 256, .inr (.inl o_ql_5))), (u2, .inl (y 1, 256, .inl o_qt_6)), (u3, .inl (y 1, 256, .inl o_qw_7)), (u4, .inl (y 2, 256, .inr (.inl o_qv_8))), (ae, .inr (1, [.int ek, .int es, .int ew, .long ev]))] H := hP
    have hD : va_D A [(atb, .inr (6, [.ref tp, .ref tw, .ref tv, .ref tf, .ref aq, .int sa, .long (lo + (vo es.toNatClampNeg))])), (tp, .inl (y 1, 121, .inl pa)), (tw, .inl (y 1, 121, .inl we)), (tv, .inl (y 2, 121, .inr (.inl (vp_updL vo es.toNatClampNeg (0 : Int64))))), (tf, .inl (y 3, 121, .inl fm)), (aq, .inr (3, [.ref u0, .ref u1, .ref u2, .ref u3, .ref u4, .int o_qn_9])), (u0, .inl (y 1, 256, .inl o_qs_4)), (u1, .inl (y 2, 256, .inr (.inl o_ql_5))), (u2, .inl (y 1, 256, .inl o_qt_6)), (u3, .inl (y 1, 256, .inl o_qw_7)), (u4, .inl (y 2, 256, .inr (.inl o_qv_8))), (ae, .inr (1, [.int ek, .int es, .int ew, .long ev]))] := hD
    refine lv_aload_n hx hb dX7_applyDiscard_47 rfl (lv_at hl 0 rfl) ?_
    refine va_get (D := D) (ci := 6) (v := .ref tw) (C := RX7) (T := TX7) (N := 7) hx hb hts iX7 hown hK hP 0 rfl rfl 1 (by decide) (hts (.fieldLink RX7 15 "SampleTracker$Table" "wells" "[I") (by decide +kernel)) (fun _ h9 => h9) rfl dX7_applyDiscard_48 ?_
    refine lv_aload_n hx hb dX7_applyDiscard_51 rfl (lv_at hl 1 rfl) ?_
    refine va_getN (host := RX8) (D := D) (ci := 1) (v := .int es) (C := RX2) (T := TX2) (N := 4) hx hb hts iX2 hown hK hP 11 rfl rfl 1 (by decide) (va_Nw.use rfl (E.2.2.1.1 (.fieldLinkNest RX7 120 RX2 "sample" "I" RX8) (by decide +kernel))) (fun _ h9 => h9) rfl dX7_applyDiscard_52 ?_
    refine lv_iconst (v := (-1 : Int32)) hx hb dX7_applyDiscard_55 (by decide) ?_
    refine va_iast hx hb hK hP hD hS 2 1 rfl rfl (ib_in h_11) dX7_applyDiscard_56 (fun H locs hP hD hS => ?_)
    have hP : va_P D vwCl [(atb, .inr (6, [.ref tp, .ref tw, .ref tv, .ref tf, .ref aq, .int sa, .long (lo + (vo es.toNatClampNeg))])), (tp, .inl (y 1, 121, .inl pa)), (tw, .inl (y 1, 121, .inl (upd we es.toNatClampNeg (-1 : Int32)))), (tv, .inl (y 2, 121, .inr (.inl (vp_updL vo es.toNatClampNeg (0 : Int64))))), (tf, .inl (y 3, 121, .inl fm)), (aq, .inr (3, [.ref u0, .ref u1, .ref u2, .ref u3, .ref u4, .int o_qn_9])), (u0, .inl (y 1, 256, .inl o_qs_4)), (u1, .inl (y 2, 256, .inr (.inl o_ql_5))), (u2, .inl (y 1, 256, .inl o_qt_6)), (u3, .inl (y 1, 256, .inl o_qw_7)), (u4, .inl (y 2, 256, .inr (.inl o_qv_8))), (ae, .inr (1, [.int ek, .int es, .int ew, .long ev]))] H := hP
    have hD : va_D A [(atb, .inr (6, [.ref tp, .ref tw, .ref tv, .ref tf, .ref aq, .int sa, .long (lo + (vo es.toNatClampNeg))])), (tp, .inl (y 1, 121, .inl pa)), (tw, .inl (y 1, 121, .inl (upd we es.toNatClampNeg (-1 : Int32)))), (tv, .inl (y 2, 121, .inr (.inl (vp_updL vo es.toNatClampNeg (0 : Int64))))), (tf, .inl (y 3, 121, .inl fm)), (aq, .inr (3, [.ref u0, .ref u1, .ref u2, .ref u3, .ref u4, .int o_qn_9])), (u0, .inl (y 1, 256, .inl o_qs_4)), (u1, .inl (y 2, 256, .inr (.inl o_ql_5))), (u2, .inl (y 1, 256, .inl o_qt_6)), (u3, .inl (y 1, 256, .inl o_qw_7)), (u4, .inl (y 2, 256, .inr (.inl o_qv_8))), (ae, .inr (1, [.int ek, .int es, .int ew, .long ev]))] := hD
    obtain rfl := Option.some.inj hf
    exact W.vret hx hb hr (fun t ht hW => ⟨⟨(), rfl, by rw [ht]; exact hP, hD⟩, hS.F ht⟩) hS.2.2 dX7_applyDiscard_57

def fX7_applyKept (es : Int32) (ew : Int32) (ev : Int64) (pa : Nat → Int32) (we : Nat → Int32) (vo : Nat → Int64) (sa : Int32) : Option ((Nat → Int32) × (Nat → Int32) × (Nat → Int64) × Int32) := (if ew = (255 : Int32) then ((fX7_addSample pa we vo sa es (-1 : Int32) ev).bind fun (o_pa_7, o_we_8, o_vo_9, o_sa_10) => some (o_pa_7, o_we_8, o_vo_9, o_sa_10)) else ((fX7_addSample pa we vo sa es ew ev).bind fun (o_pa_2, o_we_3, o_vo_4, o_sa_5) => some (o_pa_2, o_we_3, o_vo_4, o_sa_5)))

set_option maxHeartbeats 4000000 in
set_option maxRecDepth 100000 in
theorem cX7_applyKept_ok (l : Launch) (D : va_G) (y : Nat → ClassId) (atb : Nat) (tp : Nat) (tw : Nat) (tv : Nat) (tf : Nat) (aq : Nat) (u0 : Nat) (u1 : Nat) (u2 : Nat) (u3 : Nat) (u4 : Nat) (ae : Nat) (ek : Int32) (es : Int32) (ew : Int32) (ev : Int64) (pa : Nat → Int32) (we : Nat → Int32) (vo : Nat → Int64) (fm : Nat → Int32) (sa : Int32) (lo : Int64) (qs : Nat → Int32) (ql : Nat → Int64) (qt : Nat → Int32) (qw : Nat → Int32) (qv : Nat → Int64) (qn : Int32) (res : (Nat → Int32) × (Nat → Int32) × (Nat → Int64) × Int32) (hf : fX7_applyKept es ew ev pa we vo sa = some res) : CT l D y yX7_applyKept wsX7_applyKept ({ frames := 2, cells := 0, slots := 0, locals := 44 } : Room) [.ref atb, .ref ae] [(atb, .inr (6, [.ref tp, .ref tw, .ref tv, .ref tf, .ref aq, .int sa, .long lo])), (tp, .inl (y 1, 121, .inl pa)), (tw, .inl (y 1, 121, .inl we)), (tv, .inl (y 2, 121, .inr (.inl vo))), (tf, .inl (y 3, 121, .inl fm)), (aq, .inr (3, [.ref u0, .ref u1, .ref u2, .ref u3, .ref u4, .int qn])), (u0, .inl (y 1, 256, .inl qs)), (u1, .inl (y 2, 256, .inr (.inl ql))), (u2, .inl (y 1, 256, .inl qt)), (u3, .inl (y 1, 256, .inl qw)), (u4, .inl (y 2, 256, .inr (.inl qv))), (ae, .inr (1, [.int ek, .int es, .int ew, .long ev]))] (none) [(atb, .inr (6, [.ref tp, .ref tw, .ref tv, .ref tf, .ref aq, .int res.2.2.2, .long lo])), (tp, .inl (y 1, 121, .inl res.1)), (tw, .inl (y 1, 121, .inl res.2.1)), (tv, .inl (y 2, 121, .inr (.inl res.2.2.1))), (tf, .inl (y 3, 121, .inl fm)), (aq, .inr (3, [.ref u0, .ref u1, .ref u2, .ref u3, .ref u4, .int qn])), (u0, .inl (y 1, 256, .inl qs)), (u1, .inl (y 2, 256, .inr (.inl ql))), (u2, .inl (y 1, 256, .inl qt)), (u3, .inl (y 1, 256, .inl qw)), (u4, .inl (y 2, 256, .inr (.inl qv))), (ae, .inr (1, [.int ek, .int es, .int ew, .long ev]))] := by
  intro sz
  refine Met.ofW (cc := cX7_applyKept) (maxL := 2) (ret := none) (by decide) rfl ?_
  intro p e s m args below meth c s₁ B hml hv
  obtain ⟨rfl, hsz, hP, hK, hD0, hst, hno⟩ := hv
  have hx := B.exec
  have hb := B.bytes
  have hr := B.returns
  have hts := atoms_spec (ws := wsX7_applyKept) B.pre
  have hown : s.vm.findClass RX7 = some m.cls := findClass_of_methodNamed B.named
  have hlocks := B.notSynchronized
  subst hsz
  have hD := hD0.self (sz := s.heap.size)
  generalize hAe : va_A [(atb, .inr (6, [.ref tp, .ref tw, .ref tv, .ref tf, .ref aq, .int sa, .long lo])), (tp, .inl (y 1, 121, .inl pa)), (tw, .inl (y 1, 121, .inl we)), (tv, .inl (y 2, 121, .inr (.inl vo))), (tf, .inl (y 3, 121, .inl fm)), (aq, .inr (3, [.ref u0, .ref u1, .ref u2, .ref u3, .ref u4, .int qn])), (u0, .inl (y 1, 256, .inl qs)), (u1, .inl (y 2, 256, .inr (.inl ql))), (u2, .inl (y 1, 256, .inl qt)), (u3, .inl (y 1, 256, .inl qw)), (u4, .inl (y 2, 256, .inr (.inl qv))), (ae, .inr (1, [.int ek, .int es, .int ew, .long ev]))] s.heap.size = A at hD hst ⊢
  have hA : ∀ q : Nat, s.heap.size ≤ q → A q := fun q h => by rw [← hAe]; exact Or.inr h
  have hS : va_S A s.heap s.heap [] := va_S.rf
  have E : Ev D y A s := ⟨hK, hst, hno, hA⟩
  have hfix : CallFix p m c cX7_applyKept 2 s _ wsX7_applyKept RX7 := ⟨hx, hb, hml, hown, hts⟩
  have hP : va_P D vwCl [(atb, .inr (6, [.ref tp, .ref tw, .ref tv, .ref tf, .ref aq, .int sa, .long lo])), (tp, .inl (y 1, 121, .inl pa)), (tw, .inl (y 1, 121, .inl we)), (tv, .inl (y 2, 121, .inr (.inl vo))), (tf, .inl (y 3, 121, .inl fm)), (aq, .inr (3, [.ref u0, .ref u1, .ref u2, .ref u3, .ref u4, .int qn])), (u0, .inl (y 1, 256, .inl qs)), (u1, .inl (y 2, 256, .inr (.inl ql))), (u2, .inl (y 1, 256, .inl qt)), (u3, .inl (y 1, 256, .inl qw)), (u4, .inl (y 2, 256, .inr (.inl qv))), (ae, .inr (1, [.int ek, .int es, .int ew, .long ev]))] s.heap := hP
  have iX2 : ∀ w ∈ wsX20, w ∈ wsX7_applyKept := by decide +kernel
  have hl := lv_entry ([.ref atb, .ref ae]) (n := 2) (Nat.le_of_ble_eq_true rfl)
  rw [lg_entry_eq]
  generalize (lg_sl ([.ref atb, .ref ae]) ++ List.replicate (2 - (lg_sl ([.ref atb, .ref ae])).length) Slot.unset).toArray = ls at hl ⊢
  have hl : lv_has ls 2 [(0, .ref atb), (1, .ref ae)] := hl
  unfold fX7_applyKept at hf
  refine lv_aload_n hx hb dX7_applyKept_0 rfl (lv_at hl 0 rfl) ?_
  refine lv_aload_n hx hb dX7_applyKept_1 rfl (lv_at hl 1 rfl) ?_
  refine va_getN (host := RX8) (D := D) (ci := 1) (v := .int es) (C := RX2) (T := TX2) (N := 4) hx hb hts iX2 hown hK hP 11 rfl rfl 1 (by decide) (va_Nw.use rfl (E.2.2.1.1 (.fieldLinkNest RX7 120 RX2 "sample" "I" RX8) (by decide +kernel))) (fun _ h9 => h9) rfl dX7_applyKept_2 ?_
  refine lv_aload_n hx hb dX7_applyKept_5 rfl (lv_at hl 1 rfl) ?_
  refine va_getN (host := RX8) (D := D) (ci := 1) (v := .int ew) (C := RX2) (T := TX2) (N := 4) hx hb hts iX2 hown hK hP 11 rfl rfl 2 (by decide) (va_Nw.use rfl (E.2.2.1.1 (.fieldLinkNest RX7 113 RX2 "well" "I" RX8) (by decide +kernel))) (fun _ h9 => h9) rfl dX7_applyKept_6 ?_
  refine lv_sipush (v := (255 : Int32)) hx hb dX7_applyKept_9 (by decide) ?_
  refine lv_icmp_ne (tgt := 19) hx hb dX7_applyKept_12 (by decide) (fun c_1 => ?_) (fun c_1 => ?_)
  · have hf := ifn hf c_1
    refine lv_aload_n hx hb dX7_applyKept_19 rfl (lv_at hl 1 rfl) ?_
    refine va_getN (host := RX8) (D := D) (ci := 1) (v := .int ew) (C := RX2) (T := TX2) (N := 4) hx hb hts iX2 hown hK hP 11 rfl rfl 2 (by decide) (va_Nw.use rfl (E.2.2.1.1 (.fieldLinkNest RX7 113 RX2 "well" "I" RX8) (by decide +kernel))) (fun _ h9 => h9) rfl dX7_applyKept_20 ?_
    refine lv_aload_n hx hb dX7_applyKept_23 rfl (lv_at hl 1 rfl) ?_
    refine va_getN (host := RX8) (D := D) (ci := 1) (v := .long ev) (C := RX2) (T := TX2) (N := 4) hx hb hts iX2 hown hK hP 11 rfl rfl 3 (by decide) (va_Nw.use rfl (E.2.2.1.1 (.fieldLinkNest RX7 106 RX2 "volume" "J" RX8) (by decide +kernel))) (fun _ h9 => h9) rfl dX7_applyKept_24 ?_
    obtain ⟨⟨o_pa_2, o_we_3, o_vo_4, o_sa_5⟩, hc_6, hf⟩ := obd hf
    refine ct_V (As := [.int es, .int ew, .long ev]) (rest := []) (wr := [(ae, .inr (1, [.int ek, .int es, .int ew, .long ev]))]) (wn := [(atb, .inr (6, [.ref tp, .ref tw, .ref tv, .ref tf, .ref aq, .int o_sa_5, .long lo])), (tp, .inl (y 1, 121, .inl o_pa_2)), (tw, .inl (y 1, 121, .inl o_we_3)), (tv, .inl (y 2, 121, .inr (.inl o_vo_4))), (tf, .inl (y 3, 121, .inl fm)), (aq, .inr (3, [.ref u0, .ref u1, .ref u2, .ref u3, .ref u4, .int qn])), (u0, .inl (y 1, 256, .inl qs)), (u1, .inl (y 2, 256, .inr (.inl ql))), (u2, .inl (y 1, 256, .inl qt)), (u3, .inl (y 1, 256, .inl qw)), (u4, .inl (y 2, 256, .inr (.inl qv))), (ae, .inr (1, [.int ek, .int es, .int ew, .long ev]))]) hfix (cX7_addSample_ok l D y atb tp tw tv tf aq u0 u1 u2 u3 u4 pa we vo fm sa lo qs ql qt qw qv qn es ew ev _ hc_6) (cwV 3 hts gX7_applyKept_X7_addSample rfl rfl rfl (by decide +kernel) ⟨Nat.le_of_ble_eq_true rfl, Nat.le_of_ble_eq_true rfl⟩) E hP hD hS [0, 1, 2, 3, 4, 5, 6, 7, 8, 9, 10] [11] [1, 2, 3, 4, 5, 6, 7, 8, 9, 10, 11, 0] rfl rfl rfl rfl (by decide) rfl rfl 0 6 rfl rfl rfl hl.1 rfl (Nat.le_of_ble_eq_true rfl) dX7_applyKept_27 ⟨Nat.zero_le _, Nat.zero_le _⟩ (fun H locs hP hD hS => ?_)
    refine W.eq (g2 := F0 m 30 ls []) rfl ?_
    obtain rfl := Option.some.inj hf
    exact W.vret hx hb hr (fun t ht hW => ⟨⟨(), rfl, by rw [ht]; exact hP, hD⟩, hS.F ht⟩) hS.2.2 dX7_applyKept_30
  · have hf := ifp hf c_1
    refine lv_iconst (v := (-1 : Int32)) hx hb dX7_applyKept_15 (by decide) ?_
    refine lv_goto (tgt := 23) hx hb dX7_applyKept_16 (by decide) ?_
    refine lv_aload_n hx hb dX7_applyKept_23 rfl (lv_at hl 1 rfl) ?_
    refine va_getN (host := RX8) (D := D) (ci := 1) (v := .long ev) (C := RX2) (T := TX2) (N := 4) hx hb hts iX2 hown hK hP 11 rfl rfl 3 (by decide) (va_Nw.use rfl (E.2.2.1.1 (.fieldLinkNest RX7 106 RX2 "volume" "J" RX8) (by decide +kernel))) (fun _ h9 => h9) rfl dX7_applyKept_24 ?_
    obtain ⟨⟨o_pa_7, o_we_8, o_vo_9, o_sa_10⟩, hc_11, hf⟩ := obd hf
    refine ct_V (As := [.int es, .int (-1 : Int32), .long ev]) (rest := []) (wr := [(ae, .inr (1, [.int ek, .int es, .int ew, .long ev]))]) (wn := [(atb, .inr (6, [.ref tp, .ref tw, .ref tv, .ref tf, .ref aq, .int o_sa_10, .long lo])), (tp, .inl (y 1, 121, .inl o_pa_7)), (tw, .inl (y 1, 121, .inl o_we_8)), (tv, .inl (y 2, 121, .inr (.inl o_vo_9))), (tf, .inl (y 3, 121, .inl fm)), (aq, .inr (3, [.ref u0, .ref u1, .ref u2, .ref u3, .ref u4, .int qn])), (u0, .inl (y 1, 256, .inl qs)), (u1, .inl (y 2, 256, .inr (.inl ql))), (u2, .inl (y 1, 256, .inl qt)), (u3, .inl (y 1, 256, .inl qw)), (u4, .inl (y 2, 256, .inr (.inl qv))), (ae, .inr (1, [.int ek, .int es, .int ew, .long ev]))]) hfix (cX7_addSample_ok l D y atb tp tw tv tf aq u0 u1 u2 u3 u4 pa we vo fm sa lo qs ql qt qw qv qn es (-1 : Int32) ev _ hc_11) (cwV 3 hts gX7_applyKept_X7_addSample rfl rfl rfl (by decide +kernel) ⟨Nat.le_of_ble_eq_true rfl, Nat.le_of_ble_eq_true rfl⟩) E hP hD hS [0, 1, 2, 3, 4, 5, 6, 7, 8, 9, 10] [11] [1, 2, 3, 4, 5, 6, 7, 8, 9, 10, 11, 0] rfl rfl rfl rfl (by decide) rfl rfl 0 6 rfl rfl rfl hl.1 rfl (Nat.le_of_ble_eq_true rfl) dX7_applyKept_27 ⟨Nat.zero_le _, Nat.zero_le _⟩ (fun H locs hP hD hS => ?_)
    refine W.eq (g2 := F0 m 30 ls []) rfl ?_
    obtain rfl := Option.some.inj hf
    exact W.vret hx hb hr (fun t ht hW => ⟨⟨(), rfl, by rw [ht]; exact hP, hD⟩, hS.F ht⟩) hS.2.2 dX7_applyKept_30

def fX7_applyUndo (we : Nat → Int32) (vo : Nat → Int64) (sa : Int32) (lo : Int64) (qs : Nat → Int32) (ql : Nat → Int64) (qt : Nat → Int32) (qw : Nat → Int32) (qv : Nat → Int64) (qn : Int32) : Option ((Nat → Int32) × (Nat → Int64) × Int32 × Int64 × Int32) := ((fX4_stepBack qn).bind fun (r_1, o_qn_2) => (if (zb r_1) = 0 then some (we, vo, sa, lo, o_qn_2) else ((fX4_samplesBefore qs o_qn_2).bind fun r_5 => ((fX4_lostBefore ql o_qn_2).bind fun r_7 => ((fX4_touched qt o_qn_2).bind fun r_9 => ((fX7_isSample r_5 r_9).bind fun r_11 => (if (zb r_11) = 0 then some (we, vo, r_5, r_7, o_qn_2) else ((fX4_wellBefore qw o_qn_2).bind fun r_14 => (if (ib r_9 121) = true then ((fX4_volumeBefore qv o_qn_2).bind fun r_17 => some ((upd we r_9.toNatClampNeg r_14), (vp_updL vo r_9.toNatClampNeg r_17), r_5, r_7, o_qn_2)) else none)))))))))

set_option maxHeartbeats 4000000 in
set_option maxRecDepth 100000 in
theorem cX7_applyUndo_ok (l : Launch) (D : va_G) (y : Nat → ClassId) (atb : Nat) (tp : Nat) (tw : Nat) (tv : Nat) (tf : Nat) (aq : Nat) (u0 : Nat) (u1 : Nat) (u2 : Nat) (u3 : Nat) (u4 : Nat) (pa : Nat → Int32) (we : Nat → Int32) (vo : Nat → Int64) (fm : Nat → Int32) (sa : Int32) (lo : Int64) (qs : Nat → Int32) (ql : Nat → Int64) (qt : Nat → Int32) (qw : Nat → Int32) (qv : Nat → Int64) (qn : Int32) (res : (Nat → Int32) × (Nat → Int64) × Int32 × Int64 × Int32) (hf : fX7_applyUndo we vo sa lo qs ql qt qw qv qn = some res) : CT l D y yX7_applyUndo wsX7_applyUndo ({ frames := 1, cells := 0, slots := 0, locals := 21 } : Room) [.ref atb] [(atb, .inr (6, [.ref tp, .ref tw, .ref tv, .ref tf, .ref aq, .int sa, .long lo])), (tp, .inl (y 1, 121, .inl pa)), (tw, .inl (y 1, 121, .inl we)), (tv, .inl (y 2, 121, .inr (.inl vo))), (tf, .inl (y 3, 121, .inl fm)), (aq, .inr (3, [.ref u0, .ref u1, .ref u2, .ref u3, .ref u4, .int qn])), (u0, .inl (y 1, 256, .inl qs)), (u1, .inl (y 2, 256, .inr (.inl ql))), (u2, .inl (y 1, 256, .inl qt)), (u3, .inl (y 1, 256, .inl qw)), (u4, .inl (y 2, 256, .inr (.inl qv)))] (none) [(atb, .inr (6, [.ref tp, .ref tw, .ref tv, .ref tf, .ref aq, .int res.2.2.1, .long res.2.2.2.1])), (tp, .inl (y 1, 121, .inl pa)), (tw, .inl (y 1, 121, .inl res.1)), (tv, .inl (y 2, 121, .inr (.inl res.2.1))), (tf, .inl (y 3, 121, .inl fm)), (aq, .inr (3, [.ref u0, .ref u1, .ref u2, .ref u3, .ref u4, .int res.2.2.2.2])), (u0, .inl (y 1, 256, .inl qs)), (u1, .inl (y 2, 256, .inr (.inl ql))), (u2, .inl (y 1, 256, .inl qt)), (u3, .inl (y 1, 256, .inl qw)), (u4, .inl (y 2, 256, .inr (.inl qv)))] := by
  intro sz
  refine Met.ofW (cc := cX7_applyUndo) (maxL := 2) (ret := none) (by decide) rfl ?_
  intro p e s m args below meth c s₁ B hml hv
  obtain ⟨rfl, hsz, hP, hK, hD0, hst, hno⟩ := hv
  have hx := B.exec
  have hb := B.bytes
  have hr := B.returns
  have hts := atoms_spec (ws := wsX7_applyUndo) B.pre
  have hown : s.vm.findClass RX7 = some m.cls := findClass_of_methodNamed B.named
  have hlocks := B.notSynchronized
  subst hsz
  have hD := hD0.self (sz := s.heap.size)
  generalize hAe : va_A [(atb, .inr (6, [.ref tp, .ref tw, .ref tv, .ref tf, .ref aq, .int sa, .long lo])), (tp, .inl (y 1, 121, .inl pa)), (tw, .inl (y 1, 121, .inl we)), (tv, .inl (y 2, 121, .inr (.inl vo))), (tf, .inl (y 3, 121, .inl fm)), (aq, .inr (3, [.ref u0, .ref u1, .ref u2, .ref u3, .ref u4, .int qn])), (u0, .inl (y 1, 256, .inl qs)), (u1, .inl (y 2, 256, .inr (.inl ql))), (u2, .inl (y 1, 256, .inl qt)), (u3, .inl (y 1, 256, .inl qw)), (u4, .inl (y 2, 256, .inr (.inl qv)))] s.heap.size = A at hD hst ⊢
  have hA : ∀ q : Nat, s.heap.size ≤ q → A q := fun q h => by rw [← hAe]; exact Or.inr h
  have hS : va_S A s.heap s.heap [] := va_S.rf
  have E : Ev D y A s := ⟨hK, hst, hno, hA⟩
  have hfix : CallFix p m c cX7_applyUndo 2 s _ wsX7_applyUndo RX7 := ⟨hx, hb, hml, hown, hts⟩
  have hP : va_P D vwCl [(atb, .inr (6, [.ref tp, .ref tw, .ref tv, .ref tf, .ref aq, .int sa, .long lo])), (tp, .inl (y 1, 121, .inl pa)), (tw, .inl (y 1, 121, .inl we)), (tv, .inl (y 2, 121, .inr (.inl vo))), (tf, .inl (y 3, 121, .inl fm)), (aq, .inr (3, [.ref u0, .ref u1, .ref u2, .ref u3, .ref u4, .int qn])), (u0, .inl (y 1, 256, .inl qs)), (u1, .inl (y 2, 256, .inr (.inl ql))), (u2, .inl (y 1, 256, .inl qt)), (u3, .inl (y 1, 256, .inl qw)), (u4, .inl (y 2, 256, .inr (.inl qv)))] s.heap := hP
  have iX7 : ∀ w ∈ wsX70, w ∈ wsX7_applyUndo := by decide +kernel
  have hl := lv_entry ([.ref atb]) (n := 2) (Nat.le_of_ble_eq_true rfl)
  rw [lg_entry_eq]
  generalize (lg_sl ([.ref atb]) ++ List.replicate (2 - (lg_sl ([.ref atb])).length) Slot.unset).toArray = ls at hl ⊢
  have hl : lv_has ls 2 [(0, .ref atb)] := hl
  unfold fX7_applyUndo at hf
  refine lv_aload_n hx hb dX7_applyUndo_0 rfl (lv_at hl 0 rfl) ?_
  refine va_get (D := D) (ci := 6) (v := .ref aq) (C := RX7) (T := TX7) (N := 7) hx hb hts iX7 hown hK hP 0 rfl rfl 4 (by decide) (hts (.fieldLink RX7 29 "SampleTracker$Table" "past" "LSampleTracker$Past;") (by decide +kernel)) (fun _ h9 => h9) rfl dX7_applyUndo_1 ?_
  obtain ⟨⟨r_1, o_qn_2⟩, hc_3, hf⟩ := obd hf
  refine ct_V (As := []) (rest := []) (wr := [(atb, .inr (6, [.ref tp, .ref tw, .ref tv, .ref tf, .ref aq, .int sa, .long lo])), (tp, .inl (y 1, 121, .inl pa)), (tw, .inl (y 1, 121, .inl we)), (tv, .inl (y 2, 121, .inr (.inl vo))), (tf, .inl (y 3, 121, .inl fm))]) (wn := [(atb, .inr (6, [.ref tp, .ref tw, .ref tv, .ref tf, .ref aq, .int sa, .long lo])), (tp, .inl (y 1, 121, .inl pa)), (tw, .inl (y 1, 121, .inl we)), (tv, .inl (y 2, 121, .inr (.inl vo))), (tf, .inl (y 3, 121, .inl fm)), (aq, .inr (3, [.ref u0, .ref u1, .ref u2, .ref u3, .ref u4, .int o_qn_2])), (u0, .inl (y 1, 256, .inl qs)), (u1, .inl (y 2, 256, .inr (.inl ql))), (u2, .inl (y 1, 256, .inl qt)), (u3, .inl (y 1, 256, .inl qw)), (u4, .inl (y 2, 256, .inr (.inl qv)))]) hfix (cX4_stepBack_ok l D y aq u0 u1 u2 u3 u4 qs ql qt qw qv qn _ hc_3) (cwV 0 hts gX7_applyUndo_X4_stepBack rfl rfl rfl (by decide +kernel) ⟨Nat.le_of_ble_eq_true rfl, Nat.le_of_ble_eq_true rfl⟩) E hP hD hS [5, 6, 7, 8, 9, 10] [0, 1, 2, 3, 4] [0, 1, 2, 3, 4, 5, 6, 7, 8, 9, 10] rfl rfl rfl rfl (by decide) rfl rfl 0 3 rfl rfl rfl hl.1 rfl (Nat.le_of_ble_eq_true rfl) dX7_applyUndo_4 ⟨Nat.zero_le _, Nat.zero_le _⟩ (fun H locs hP hD hS => ?_)
  refine W.eq (g2 := F0 m 7 ls [.int (zb r_1)]) rfl ?_
  refine lv_if_eq (tgt := 74) hx hb dX7_applyUndo_7 (by decide) (fun c_4 => ?_) (fun c_4 => ?_)
  · have hf := ifp hf c_4
    obtain rfl := Option.some.inj hf
    exact W.vret hx hb hr (fun t ht hW => ⟨⟨(), rfl, by rw [ht]; exact hP, hD⟩, hS.F ht⟩) hS.2.2 dX7_applyUndo_74
  · have hf := ifn hf c_4
    refine lv_aload_n hx hb dX7_applyUndo_10 rfl (lv_at hl 0 rfl) ?_
    refine lv_aload_n hx hb dX7_applyUndo_11 rfl (lv_at hl 0 rfl) ?_
    refine va_get (D := D) (ci := 6) (v := .ref aq) (C := RX7) (T := TX7) (N := 7) hx hb hts iX7 hown hK hP 0 rfl rfl 4 (by decide) (hts (.fieldLink RX7 29 "SampleTracker$Table" "past" "LSampleTracker$Past;") (by decide +kernel)) (fun _ h9 => h9) rfl dX7_applyUndo_12 ?_
    obtain ⟨r_5, hc_6, hf⟩ := obd hf
    refine ct_V (As := []) (rest := [.ref atb]) (wr := [(atb, .inr (6, [.ref tp, .ref tw, .ref tv, .ref tf, .ref aq, .int sa, .long lo])), (tp, .inl (y 1, 121, .inl pa)), (tw, .inl (y 1, 121, .inl we)), (tv, .inl (y 2, 121, .inr (.inl vo))), (tf, .inl (y 3, 121, .inl fm))]) (wn := [(atb, .inr (6, [.ref tp, .ref tw, .ref tv, .ref tf, .ref aq, .int sa, .long lo])), (tp, .inl (y 1, 121, .inl pa)), (tw, .inl (y 1, 121, .inl we)), (tv, .inl (y 2, 121, .inr (.inl vo))), (tf, .inl (y 3, 121, .inl fm)), (aq, .inr (3, [.ref u0, .ref u1, .ref u2, .ref u3, .ref u4, .int o_qn_2])), (u0, .inl (y 1, 256, .inl qs)), (u1, .inl (y 2, 256, .inr (.inl ql))), (u2, .inl (y 1, 256, .inl qt)), (u3, .inl (y 1, 256, .inl qw)), (u4, .inl (y 2, 256, .inr (.inl qv)))]) hfix (cX4_samplesBefore_ok l D y aq u0 u1 u2 u3 u4 qs ql qt qw qv o_qn_2 _ hc_6) (cwV 0 hts gX7_applyUndo_X4_samplesBefore rfl rfl rfl (by decide +kernel) ⟨Nat.le_of_ble_eq_true rfl, Nat.le_of_ble_eq_true rfl⟩) E hP hD hS [5, 6, 7, 8, 9, 10] [0, 1, 2, 3, 4] [0, 1, 2, 3, 4, 5, 6, 7, 8, 9, 10] rfl rfl rfl rfl (by decide) rfl rfl 0 3 rfl rfl rfl hl.1 rfl (Nat.le_of_ble_eq_true rfl) dX7_applyUndo_15 ⟨Nat.zero_le _, Nat.zero_le _⟩ (fun H locs hP hD hS => ?_)
    refine W.eq (g2 := F0 m 18 ls [.int r_5, .ref atb]) rfl ?_
    refine va_put (D := D) (ci := 6) (v := .int r_5) (ty := .int) (C := RX7) (T := TX7) (N := 7) hx hb hts iX7 tyX7 tyX7_ok nmX7 hown hK hP hD hS 0 rfl rfl 5 (by decide) (hts (.fieldLink RX7 33 "SampleTracker$Table" "samples" "I") (by decide +kernel)) (fun _ h9 => h9) rfl (by decide +kernel) rfl rfl (Nat.le_of_ble_eq_true rfl) dX7_applyUndo_18 (fun H locs hP hD hS => ?_)
    have hP : va_P D vwCl [(atb, .inr (6, [.ref tp, .ref tw, .ref tv, .ref tf, .ref aq, .int r_5, .long lo])), (tp, .inl (y 1, 121, .inl pa)), (tw, .inl (y 1, 121, .inl we)), (tv, .inl (y 2, 121, .inr (.inl vo))), (tf, .inl (y 3, 121, .inl fm)), (aq, .inr (3, [.ref u0, .ref u1, .ref u2, .ref u3, .ref u4, .int o_qn_2])), (u0, .inl (y 1, 256, .inl qs)), (u1, .inl (y 2, 256, .inr (.inl ql))), (u2, .inl (y 1, 256, .inl qt)), (u3, .inl (y 1, 256, .inl qw)), (u4, .inl (y 2, 256, .inr (.inl qv)))] H := hP
    have hD : va_D A [(atb, .inr (6, [.ref tp, .ref tw, .ref tv, .ref tf, .ref aq, .int r_5, .long lo])), (tp, .inl (y 1, 121, .inl pa)), (tw, .inl (y 1, 121, .inl we)), (tv, .inl (y 2, 121, .inr (.inl vo))), (tf, .inl (y 3, 121, .inl fm)), (aq, .inr (3, [.ref u0, .ref u1, .ref u2, .ref u3, .ref u4, .int o_qn_2])), (u0, .inl (y 1, 256, .inl qs)), (u1, .inl (y 2, 256, .inr (.inl ql))), (u2, .inl (y 1, 256, .inl qt)), (u3, .inl (y 1, 256, .inl qw)), (u4, .inl (y 2, 256, .inr (.inl qv)))] := hD
    refine lv_aload_n hx hb dX7_applyUndo_21 rfl (lv_at hl 0 rfl) ?_
    refine lv_aload_n hx hb dX7_applyUndo_22 rfl (lv_at hl 0 rfl) ?_
    refine va_get (D := D) (ci := 6) (v := .ref aq) (C := RX7) (T := TX7) (N := 7) hx hb hts iX7 hown hK hP 0 rfl rfl 4 (by decide) (hts (.fieldLink RX7 29 "SampleTracker$Table" "past" "LSampleTracker$Past;") (by decide +kernel)) (fun _ h9 => h9) rfl dX7_applyUndo_23 ?_
    obtain ⟨r_7, hc_8, hf⟩ := obd hf
    refine ct_V (As := []) (rest := [.ref atb]) (wr := [(atb, .inr (6, [.ref tp, .ref tw, .ref tv, .ref tf, .ref aq, .int r_5, .long lo])), (tp, .inl (y 1, 121, .inl pa)), (tw, .inl (y 1, 121, .inl we)), (tv, .inl (y 2, 121, .inr (.inl vo))), (tf, .inl (y 3, 121, .inl fm))]) (wn := [(atb, .inr (6, [.ref tp, .ref tw, .ref tv, .ref tf, .ref aq, .int r_5, .long lo])), (tp, .inl (y 1, 121, .inl pa)), (tw, .inl (y 1, 121, .inl we)), (tv, .inl (y 2, 121, .inr (.inl vo))), (tf, .inl (y 3, 121, .inl fm)), (aq, .inr (3, [.ref u0, .ref u1, .ref u2, .ref u3, .ref u4, .int o_qn_2])), (u0, .inl (y 1, 256, .inl qs)), (u1, .inl (y 2, 256, .inr (.inl ql))), (u2, .inl (y 1, 256, .inl qt)), (u3, .inl (y 1, 256, .inl qw)), (u4, .inl (y 2, 256, .inr (.inl qv)))]) hfix (cX4_lostBefore_ok l D y aq u0 u1 u2 u3 u4 qs ql qt qw qv o_qn_2 _ hc_8) (cwV 0 hts gX7_applyUndo_X4_lostBefore rfl rfl rfl (by decide +kernel) ⟨Nat.le_of_ble_eq_true rfl, Nat.le_of_ble_eq_true rfl⟩) E hP hD hS [5, 6, 7, 8, 9, 10] [0, 1, 2, 3, 4] [0, 1, 2, 3, 4, 5, 6, 7, 8, 9, 10] rfl rfl rfl rfl (by decide) rfl rfl 0 3 rfl rfl rfl hl.1 rfl (Nat.le_of_ble_eq_true rfl) dX7_applyUndo_26 ⟨Nat.zero_le _, Nat.zero_le _⟩ (fun H locs hP hD hS => ?_)
    refine W.eq (g2 := F0 m 29 ls [.long r_7, .ref atb]) rfl ?_
    refine va_put (D := D) (ci := 6) (v := .long r_7) (ty := .long) (C := RX7) (T := TX7) (N := 7) hx hb hts iX7 tyX7 tyX7_ok nmX7 hown hK hP hD hS 0 rfl rfl 6 (by decide) (hts (.fieldLink RX7 37 "SampleTracker$Table" "lost" "J") (by decide +kernel)) (fun _ h9 => h9) rfl (by decide +kernel) rfl rfl (Nat.le_of_ble_eq_true rfl) dX7_applyUndo_29 (fun H locs hP hD hS => ?_)
    have hP : va_P D vwCl [(atb, .inr (6, [.ref tp, .ref tw, .ref tv, .ref tf, .ref aq, .int r_5, .long r_7])), (tp, .inl (y 1, 121, .inl pa)), (tw, .inl (y 1, 121, .inl we)), (tv, .inl (y 2, 121, .inr (.inl vo))), (tf, .inl (y 3, 121, .inl fm)), (aq, .inr (3, [.ref u0, .ref u1, .ref u2, .ref u3, .ref u4, .int o_qn_2])), (u0, .inl (y 1, 256, .inl qs)), (u1, .inl (y 2, 256, .inr (.inl ql))), (u2, .inl (y 1, 256, .inl qt)), (u3, .inl (y 1, 256, .inl qw)), (u4, .inl (y 2, 256, .inr (.inl qv)))] H := hP
    have hD : va_D A [(atb, .inr (6, [.ref tp, .ref tw, .ref tv, .ref tf, .ref aq, .int r_5, .long r_7])), (tp, .inl (y 1, 121, .inl pa)), (tw, .inl (y 1, 121, .inl we)), (tv, .inl (y 2, 121, .inr (.inl vo))), (tf, .inl (y 3, 121, .inl fm)), (aq, .inr (3, [.ref u0, .ref u1, .ref u2, .ref u3, .ref u4, .int o_qn_2])), (u0, .inl (y 1, 256, .inl qs)), (u1, .inl (y 2, 256, .inr (.inl ql))), (u2, .inl (y 1, 256, .inl qt)), (u3, .inl (y 1, 256, .inl qw)), (u4, .inl (y 2, 256, .inr (.inl qv)))] := hD
    refine lv_aload_n hx hb dX7_applyUndo_32 rfl (lv_at hl 0 rfl) ?_
    refine va_get (D := D) (ci := 6) (v := .ref aq) (C := RX7) (T := TX7) (N := 7) hx hb hts iX7 hown hK hP 0 rfl rfl 4 (by decide) (hts (.fieldLink RX7 29 "SampleTracker$Table" "past" "LSampleTracker$Past;") (by decide +kernel)) (fun _ h9 => h9) rfl dX7_applyUndo_33 ?_
    obtain ⟨r_9, hc_10, hf⟩ := obd hf
    refine ct_V (As := []) (rest := []) (wr := [(atb, .inr (6, [.ref tp, .ref tw, .ref tv, .ref tf, .ref aq, .int r_5, .long r_7])), (tp, .inl (y 1, 121, .inl pa)), (tw, .inl (y 1, 121, .inl we)), (tv, .inl (y 2, 121, .inr (.inl vo))), (tf, .inl (y 3, 121, .inl fm))]) (wn := [(atb, .inr (6, [.ref tp, .ref tw, .ref tv, .ref tf, .ref aq, .int r_5, .long r_7])), (tp, .inl (y 1, 121, .inl pa)), (tw, .inl (y 1, 121, .inl we)), (tv, .inl (y 2, 121, .inr (.inl vo))), (tf, .inl (y 3, 121, .inl fm)), (aq, .inr (3, [.ref u0, .ref u1, .ref u2, .ref u3, .ref u4, .int o_qn_2])), (u0, .inl (y 1, 256, .inl qs)), (u1, .inl (y 2, 256, .inr (.inl ql))), (u2, .inl (y 1, 256, .inl qt)), (u3, .inl (y 1, 256, .inl qw)), (u4, .inl (y 2, 256, .inr (.inl qv)))]) hfix (cX4_touched_ok l D y aq u0 u1 u2 u3 u4 qs ql qt qw qv o_qn_2 _ hc_10) (cwV 0 hts gX7_applyUndo_X4_touched rfl rfl rfl (by decide +kernel) ⟨Nat.le_of_ble_eq_true rfl, Nat.le_of_ble_eq_true rfl⟩) E hP hD hS [5, 6, 7, 8, 9, 10] [0, 1, 2, 3, 4] [0, 1, 2, 3, 4, 5, 6, 7, 8, 9, 10] rfl rfl rfl rfl (by decide) rfl rfl 0 3 rfl rfl rfl hl.1 rfl (Nat.le_of_ble_eq_true rfl) dX7_applyUndo_36 ⟨Nat.zero_le _, Nat.zero_le _⟩ (fun H locs hP hD hS => ?_)
    refine W.eq (g2 := F0 m 39 ls [.int r_9]) rfl ?_
    refine lv_istore_n (lv' := [(1, .int r_9), (0, .ref atb)]) hx hb dX7_applyUndo_39 rfl hl (by decide) rfl (fun ls hl => ?_)
    refine lv_aload_n hx hb dX7_applyUndo_40 rfl (lv_at hl 1 rfl) ?_
    refine lv_iload_n hx hb dX7_applyUndo_41 rfl (lv_at hl 0 rfl) ?_
    obtain ⟨r_11, hc_12, hf⟩ := obd hf
    refine ct_V (As := [.int r_9]) (rest := []) (wr := []) (wn := [(atb, .inr (6, [.ref tp, .ref tw, .ref tv, .ref tf, .ref aq, .int r_5, .long r_7])), (tp, .inl (y 1, 121, .inl pa)), (tw, .inl (y 1, 121, .inl we)), (tv, .inl (y 2, 121, .inr (.inl vo))), (tf, .inl (y 3, 121, .inl fm)), (aq, .inr (3, [.ref u0, .ref u1, .ref u2, .ref u3, .ref u4, .int o_qn_2])), (u0, .inl (y 1, 256, .inl qs)), (u1, .inl (y 2, 256, .inr (.inl ql))), (u2, .inl (y 1, 256, .inl qt)), (u3, .inl (y 1, 256, .inl qw)), (u4, .inl (y 2, 256, .inr (.inl qv)))]) hfix (cX7_isSample_ok l D y atb tp tw tv tf aq u0 u1 u2 u3 u4 pa we vo fm r_5 r_7 qs ql qt qw qv o_qn_2 r_9 _ hc_12) (cwV 1 hts gX7_applyUndo_X7_isSample rfl rfl rfl (by decide +kernel) ⟨Nat.le_of_ble_eq_true rfl, Nat.le_of_ble_eq_true rfl⟩) E hP hD hS [0, 1, 2, 3, 4, 5, 6, 7, 8, 9, 10] [] [0, 1, 2, 3, 4, 5, 6, 7, 8, 9, 10] rfl rfl rfl rfl (by decide) rfl rfl 0 6 rfl rfl rfl hl.1 rfl (Nat.le_of_ble_eq_true rfl) dX7_applyUndo_42 ⟨Nat.zero_le _, Nat.zero_le _⟩ (fun H locs hP hD hS => ?_)
    refine W.eq (g2 := F0 m 45 ls [.int (zb r_11)]) rfl ?_
    refine lv_if_eq (tgt := 74) hx hb dX7_applyUndo_45 (by decide) (fun c_13 => ?_) (fun c_13 => ?_)
    · have hf := ifp hf c_13
      obtain rfl := Option.some.inj hf
      exact W.vret hx hb hr (fun t ht hW => ⟨⟨(), rfl, by rw [ht]; exact hP, hD⟩, hS.F ht⟩) hS.2.2 dX7_applyUndo_74
    · have hf := ifn hf c_13
      refine lv_aload_n hx hb dX7_applyUndo_48 rfl (lv_at hl 1 rfl) ?_
      refine va_get (D := D) (ci := 6) (v := .ref tw) (C := RX7) (T := TX7) (N := 7) hx hb hts iX7 hown hK hP 0 rfl rfl 1 (by decide) (hts (.fieldLink RX7 15 "SampleTracker$Table" "wells" "[I") (by decide +kernel)) (fun _ h9 => h9) rfl dX7_applyUndo_49 ?_
      refine lv_iload_n hx hb dX7_applyUndo_52 rfl (lv_at hl 0 rfl) ?_
      refine lv_aload_n hx hb dX7_applyUndo_53 rfl (lv_at hl 1 rfl) ?_
      refine va_get (D := D) (ci := 6) (v := .ref aq) (C := RX7) (T := TX7) (N := 7) hx hb hts iX7 hown hK hP 0 rfl rfl 4 (by decide) (hts (.fieldLink RX7 29 "SampleTracker$Table" "past" "LSampleTracker$Past;") (by decide +kernel)) (fun _ h9 => h9) rfl dX7_applyUndo_54 ?_
      obtain ⟨r_14, hc_15, hf⟩ := obd hf
      refine ct_V (As := []) (rest := [.int r_9, .ref tw]) (wr := [(atb, .inr (6, [.ref tp, .ref tw, .ref tv, .ref tf, .ref aq, .int r_5, .long r_7])), (tp, .inl (y 1, 121, .inl pa)), (tw, .inl (y 1, 121, .inl we)), (tv, .inl (y 2, 121, .inr (.inl vo))), (tf, .inl (y 3, 121, .inl fm))]) (wn := [(atb, .inr (6, [.ref tp, .ref tw, .ref tv, .ref tf, .ref aq, .int r_5, .long r_7])), (tp, .inl (y 1, 121, .inl pa)), (tw, .inl (y 1, 121, .inl we)), (tv, .inl (y 2, 121, .inr (.inl vo))), (tf, .inl (y 3, 121, .inl fm)), (aq, .inr (3, [.ref u0, .ref u1, .ref u2, .ref u3, .ref u4, .int o_qn_2])), (u0, .inl (y 1, 256, .inl qs)), (u1, .inl (y 2, 256, .inr (.inl ql))), (u2, .inl (y 1, 256, .inl qt)), (u3, .inl (y 1, 256, .inl qw)), (u4, .inl (y 2, 256, .inr (.inl qv)))]) hfix (cX4_wellBefore_ok l D y aq u0 u1 u2 u3 u4 qs ql qt qw qv o_qn_2 _ hc_15) (cwV 0 hts gX7_applyUndo_X4_wellBefore rfl rfl rfl (by decide +kernel) ⟨Nat.le_of_ble_eq_true rfl, Nat.le_of_ble_eq_true rfl⟩) E hP hD hS [5, 6, 7, 8, 9, 10] [0, 1, 2, 3, 4] [0, 1, 2, 3, 4, 5, 6, 7, 8, 9, 10] rfl rfl rfl rfl (by decide) rfl rfl 0 3 rfl rfl rfl hl.1 rfl (Nat.le_of_ble_eq_true rfl) dX7_applyUndo_57 ⟨Nat.zero_le _, Nat.zero_le _⟩ (fun H locs hP hD hS => ?_)
      refine W.eq (g2 := F0 m 60 ls [.int r_14, .int r_9, .ref tw]) rfl ?_
      obtain ⟨h_16, hf⟩ := ibk hf
      refine va_iast hx hb hK hP hD hS 2 1 rfl rfl (ib_in h_16) dX7_applyUndo_60 (fun H locs hP hD hS => ?_)
      have hP : va_P D vwCl [(atb, .inr (6, [.ref tp, .ref tw, .ref tv, .ref tf, .ref aq, .int r_5, .long r_7])), (tp, .inl (y 1, 121, .inl pa)), (tw, .inl (y 1, 121, .inl (upd we r_9.toNatClampNeg r_14))), (tv, .inl (y 2, 121, .inr (.inl vo))), (tf, .inl (y 3, 121, .inl fm)), (aq, .inr (3, [.ref u0, .ref u1, .ref u2, .ref u3, .ref u4, .int o_qn_2])), (u0, .inl (y 1, 256, .inl qs)), (u1, .inl (y 2, 256, .inr (.inl ql))), (u2, .inl (y 1, 256, .inl qt)), (u3, .inl (y 1, 256, .inl qw)), (u4, .inl (y 2, 256, .inr (.inl qv)))] H := hP
      have hD : va_D A [(atb, .inr (6, [.ref tp, .ref tw, .ref tv, .ref tf, .ref aq, .int r_5, .long r_7])), (tp, .inl (y 1, 121, .inl pa)), (tw, .inl (y 1, 121, .inl (upd we r_9.toNatClampNeg r_14))), (tv, .inl (y 2, 121, .inr (.inl vo))), (tf, .inl (y 3, 121, .inl fm)), (aq, .inr (3, [.ref u0, .ref u1, .ref u2, .ref u3, .ref u4, .int o_qn_2])), (u0, .inl (y 1, 256, .inl qs)), (u1, .inl (y 2, 256, .inr (.inl ql))), (u2, .inl (y 1, 256, .inl qt)), (u3, .inl (y 1, 256, .inl qw)), (u4, .inl (y 2, 256, .inr (.inl qv)))] := hD
      refine lv_aload_n hx hb dX7_applyUndo_61 rfl (lv_at hl 1 rfl) ?_
      refine va_get (D := D) (ci := 6) (v := .ref tv) (C := RX7) (T := TX7) (N := 7) hx hb hts iX7 hown hK hP 0 rfl rfl 2 (by decide) (hts (.fieldLink RX7 18 "SampleTracker$Table" "volumes" "[J") (by decide +kernel)) (fun _ h9 => h9) rfl dX7_applyUndo_62 ?_
      refine lv_iload_n hx hb dX7_applyUndo_65 rfl (lv_at hl 0 rfl) ?_
      refine lv_aload_n hx hb dX7_applyUndo_66 rfl (lv_at hl 1 rfl) ?_
      refine va_get (D := D) (ci := 6) (v := .ref aq) (C := RX7) (T := TX7) (N := 7) hx hb hts iX7 hown hK hP 0 rfl rfl 4 (by decide) (hts (.fieldLink RX7 29 "SampleTracker$Table" "past" "LSampleTracker$Past;") (by decide +kernel)) (fun _ h9 => h9) rfl dX7_applyUndo_67 ?_
      obtain ⟨r_17, hc_18, hf⟩ := obd hf
      refine ct_V (As := []) (rest := [.int r_9, .ref tv]) (wr := [(atb, .inr (6, [.ref tp, .ref tw, .ref tv, .ref tf, .ref aq, .int r_5, .long r_7])), (tp, .inl (y 1, 121, .inl pa)), (tw, .inl (y 1, 121, .inl (upd we r_9.toNatClampNeg r_14))), (tv, .inl (y 2, 121, .inr (.inl vo))), (tf, .inl (y 3, 121, .inl fm))]) (wn := [(atb, .inr (6, [.ref tp, .ref tw, .ref tv, .ref tf, .ref aq, .int r_5, .long r_7])), (tp, .inl (y 1, 121, .inl pa)), (tw, .inl (y 1, 121, .inl (upd we r_9.toNatClampNeg r_14))), (tv, .inl (y 2, 121, .inr (.inl vo))), (tf, .inl (y 3, 121, .inl fm)), (aq, .inr (3, [.ref u0, .ref u1, .ref u2, .ref u3, .ref u4, .int o_qn_2])), (u0, .inl (y 1, 256, .inl qs)), (u1, .inl (y 2, 256, .inr (.inl ql))), (u2, .inl (y 1, 256, .inl qt)), (u3, .inl (y 1, 256, .inl qw)), (u4, .inl (y 2, 256, .inr (.inl qv)))]) hfix (cX4_volumeBefore_ok l D y aq u0 u1 u2 u3 u4 qs ql qt qw qv o_qn_2 _ hc_18) (cwV 0 hts gX7_applyUndo_X4_volumeBefore rfl rfl rfl (by decide +kernel) ⟨Nat.le_of_ble_eq_true rfl, Nat.le_of_ble_eq_true rfl⟩) E hP hD hS [5, 6, 7, 8, 9, 10] [0, 1, 2, 3, 4] [0, 1, 2, 3, 4, 5, 6, 7, 8, 9, 10] rfl rfl rfl rfl (by decide) rfl rfl 0 3 rfl rfl rfl hl.1 rfl (Nat.le_of_ble_eq_true rfl) dX7_applyUndo_70 ⟨Nat.zero_le _, Nat.zero_le _⟩ (fun H locs hP hD hS => ?_)
      refine W.eq (g2 := F0 m 73 ls [.long r_17, .int r_9, .ref tv]) rfl ?_
      refine va_last hx hb hK hP hD hS 3 2 rfl rfl (ib_in h_16) dX7_applyUndo_73 (fun H locs hP hD hS => ?_)
      have hP : va_P D vwCl [(atb, .inr (6, [.ref tp, .ref tw, .ref tv, .ref tf, .ref aq, .int r_5, .long r_7])), (tp, .inl (y 1, 121, .inl pa)), (tw, .inl (y 1, 121, .inl (upd we r_9.toNatClampNeg r_14))), (tv, .inl (y 2, 121, .inr (.inl (vp_updL vo r_9.toNatClampNeg r_17)))), (tf, .inl (y 3, 121, .inl fm)), (aq, .inr (3, [.ref u0, .ref u1, .ref u2, .ref u3, .ref u4, .int o_qn_2])), (u0, .inl (y 1, 256, .inl qs)), (u1, .inl (y 2, 256, .inr (.inl ql))), (u2, .inl (y 1, 256, .inl qt)), (u3, .inl (y 1, 256, .inl qw)), (u4, .inl (y 2, 256, .inr (.inl qv)))] H := hP
      have hD : va_D A [(atb, .inr (6, [.ref tp, .ref tw, .ref tv, .ref tf, .ref aq, .int r_5, .long r_7])), (tp, .inl (y 1, 121, .inl pa)), (tw, .inl (y 1, 121, .inl (upd we r_9.toNatClampNeg r_14))), (tv, .inl (y 2, 121, .inr (.inl (vp_updL vo r_9.toNatClampNeg r_17)))), (tf, .inl (y 3, 121, .inl fm)), (aq, .inr (3, [.ref u0, .ref u1, .ref u2, .ref u3, .ref u4, .int o_qn_2])), (u0, .inl (y 1, 256, .inl qs)), (u1, .inl (y 2, 256, .inr (.inl ql))), (u2, .inl (y 1, 256, .inl qt)), (u3, .inl (y 1, 256, .inl qw)), (u4, .inl (y 2, 256, .inr (.inl qv)))] := hD
      obtain rfl := Option.some.inj hf
      exact W.vret hx hb hr (fun t ht hW => ⟨⟨(), rfl, by rw [ht]; exact hP, hD⟩, hS.F ht⟩) hS.2.2 dX7_applyUndo_74

def fX7_apply (ek : Int32) (es : Int32) (ew : Int32) (ev : Int64) (pa : Nat → Int32) (we : Nat → Int32) (vo : Nat → Int64) (sa : Int32) (lo : Int64) (qs : Nat → Int32) (ql : Nat → Int64) (qt : Nat → Int32) (qw : Nat → Int32) (qv : Nat → Int64) (qn : Int32) : Option ((Nat → Int32) × (Nat → Int32) × (Nat → Int64) × Int32 × Int64 × (Nat → Int32) × (Nat → Int64) × (Nat → Int32) × (Nat → Int32) × (Nat → Int64) × Int32) := (if ek = (1 : Int32) then ((fX7_applyRegister ew ev pa we vo sa lo qs ql qt qw qv qn).bind fun (o_pa_2, o_we_3, o_vo_4, o_sa_5, o_qs_6, o_ql_7, o_qt_8, o_qw_9, o_qv_10, o_qn_11) => some (o_pa_2, o_we_3, o_vo_4, o_sa_5, lo, o_qs_6, o_ql_7, o_qt_8, o_qw_9, o_qv_10, o_qn_11)) else (if ek = (2 : Int32) then ((fX7_applyAliquot es ew ev pa we vo sa lo qs ql qt qw qv qn).bind fun (o_pa_14, o_we_15, o_vo_16, o_sa_17, o_qs_18, o_ql_19, o_qt_20, o_qw_21, o_qv_22, o_qn_23) => some (o_pa_14, o_we_15, o_vo_16, o_sa_17, lo, o_qs_18, o_ql_19, o_qt_20, o_qw_21, o_qv_22, o_qn_23)) else (if ek = (3 : Int32) then ((fX7_applyMove es ew we vo sa lo qs ql qt qw qv qn).bind fun (o_we_26, o_qs_27, o_ql_28, o_qt_29, o_qw_30, o_qv_31, o_qn_32) => some (pa, o_we_26, vo, sa, lo, o_qs_27, o_ql_28, o_qt_29, o_qw_30, o_qv_31, o_qn_32)) else (if ek = (4 : Int32) then ((fX7_applyDiscard es we vo sa lo qs ql qt qw qv qn).bind fun (o_we_35, o_vo_36, o_lo_37, o_qs_38, o_ql_39, o_qt_40, o_qw_41, o_qv_42, o_qn_43) => some (pa, o_we_35, o_vo_36, sa, o_lo_37, o_qs_38, o_ql_39, o_qt_40, o_qw_41, o_qv_42, o_qn_43)) else (if ek = (5 : Int32) then ((fX7_applyUndo we vo sa lo qs ql qt qw qv qn).bind fun (o_we_46, o_vo_47, o_sa_48, o_lo_49, o_qn_50) => some (pa, o_we_46, o_vo_47, o_sa_48, o_lo_49, qs, ql, qt, qw, qv, o_qn_50)) else (if ek = (6 : Int32) then ((fX7_applyKept es ew ev pa we vo sa).bind fun (o_pa_53, o_we_54, o_vo_55, o_sa_56) => some (o_pa_53, o_we_54, o_vo_55, o_sa_56, lo, qs, ql, qt, qw, qv, qn)) else (if ek = (7 : Int32) then some (pa, we, vo, sa, ev, qs, ql, qt, qw, qv, qn) else some (pa, we, vo, sa, lo, qs, ql, qt, qw, qv, qn))))))))

set_option maxHeartbeats 4000000 in
set_option maxRecDepth 100000 in
theorem cX7_apply_ok (l : Launch) (D : va_G) (y : Nat → ClassId) (atb : Nat) (tp : Nat) (tw : Nat) (tv : Nat) (tf : Nat) (aq : Nat) (u0 : Nat) (u1 : Nat) (u2 : Nat) (u3 : Nat) (u4 : Nat) (ae : Nat) (ek : Int32) (es : Int32) (ew : Int32) (ev : Int64) (pa : Nat → Int32) (we : Nat → Int32) (vo : Nat → Int64) (fm : Nat → Int32) (sa : Int32) (lo : Int64) (qs : Nat → Int32) (ql : Nat → Int64) (qt : Nat → Int32) (qw : Nat → Int32) (qv : Nat → Int64) (qn : Int32) (res : (Nat → Int32) × (Nat → Int32) × (Nat → Int64) × Int32 × Int64 × (Nat → Int32) × (Nat → Int64) × (Nat → Int32) × (Nat → Int32) × (Nat → Int64) × Int32) (hf : fX7_apply ek es ew ev pa we vo sa lo qs ql qt qw qv qn = some res) : CT l D y yX7_apply wsX7_apply ({ frames := 4, cells := 0, slots := 0, locals := 84 } : Room) [.ref atb, .ref ae] [(atb, .inr (6, [.ref tp, .ref tw, .ref tv, .ref tf, .ref aq, .int sa, .long lo])), (tp, .inl (y 1, 121, .inl pa)), (tw, .inl (y 1, 121, .inl we)), (tv, .inl (y 2, 121, .inr (.inl vo))), (tf, .inl (y 3, 121, .inl fm)), (aq, .inr (3, [.ref u0, .ref u1, .ref u2, .ref u3, .ref u4, .int qn])), (u0, .inl (y 1, 256, .inl qs)), (u1, .inl (y 2, 256, .inr (.inl ql))), (u2, .inl (y 1, 256, .inl qt)), (u3, .inl (y 1, 256, .inl qw)), (u4, .inl (y 2, 256, .inr (.inl qv))), (ae, .inr (1, [.int ek, .int es, .int ew, .long ev]))] (none) [(atb, .inr (6, [.ref tp, .ref tw, .ref tv, .ref tf, .ref aq, .int res.2.2.2.1, .long res.2.2.2.2.1])), (tp, .inl (y 1, 121, .inl res.1)), (tw, .inl (y 1, 121, .inl res.2.1)), (tv, .inl (y 2, 121, .inr (.inl res.2.2.1))), (tf, .inl (y 3, 121, .inl fm)), (aq, .inr (3, [.ref u0, .ref u1, .ref u2, .ref u3, .ref u4, .int res.2.2.2.2.2.2.2.2.2.2])), (u0, .inl (y 1, 256, .inl res.2.2.2.2.2.1)), (u1, .inl (y 2, 256, .inr (.inl res.2.2.2.2.2.2.1))), (u2, .inl (y 1, 256, .inl res.2.2.2.2.2.2.2.1)), (u3, .inl (y 1, 256, .inl res.2.2.2.2.2.2.2.2.1)), (u4, .inl (y 2, 256, .inr (.inl res.2.2.2.2.2.2.2.2.2.1))), (ae, .inr (1, [.int ek, .int es, .int ew, .long ev]))] := by
  intro sz
  refine Met.ofW (cc := cX7_apply) (maxL := 2) (ret := none) (by decide) rfl ?_
  intro p e s m args below meth c s₁ B hml hv
  obtain ⟨rfl, hsz, hP, hK, hD0, hst, hno⟩ := hv
  have hx := B.exec
  have hb := B.bytes
  have hr := B.returns
  have hts := atoms_spec (ws := wsX7_apply) B.pre
  have hown : s.vm.findClass RX7 = some m.cls := findClass_of_methodNamed B.named
  have hlocks := B.notSynchronized
  subst hsz
  have hD := hD0.self (sz := s.heap.size)
  generalize hAe : va_A [(atb, .inr (6, [.ref tp, .ref tw, .ref tv, .ref tf, .ref aq, .int sa, .long lo])), (tp, .inl (y 1, 121, .inl pa)), (tw, .inl (y 1, 121, .inl we)), (tv, .inl (y 2, 121, .inr (.inl vo))), (tf, .inl (y 3, 121, .inl fm)), (aq, .inr (3, [.ref u0, .ref u1, .ref u2, .ref u3, .ref u4, .int qn])), (u0, .inl (y 1, 256, .inl qs)), (u1, .inl (y 2, 256, .inr (.inl ql))), (u2, .inl (y 1, 256, .inl qt)), (u3, .inl (y 1, 256, .inl qw)), (u4, .inl (y 2, 256, .inr (.inl qv))), (ae, .inr (1, [.int ek, .int es, .int ew, .long ev]))] s.heap.size = A at hD hst ⊢
  have hA : ∀ q : Nat, s.heap.size ≤ q → A q := fun q h => by rw [← hAe]; exact Or.inr h
  have hS : va_S A s.heap s.heap [] := va_S.rf
  have E : Ev D y A s := ⟨hK, hst, hno, hA⟩
  have hfix : CallFix p m c cX7_apply 2 s _ wsX7_apply RX7 := ⟨hx, hb, hml, hown, hts⟩
  have hP : va_P D vwCl [(atb, .inr (6, [.ref tp, .ref tw, .ref tv, .ref tf, .ref aq, .int sa, .long lo])), (tp, .inl (y 1, 121, .inl pa)), (tw, .inl (y 1, 121, .inl we)), (tv, .inl (y 2, 121, .inr (.inl vo))), (tf, .inl (y 3, 121, .inl fm)), (aq, .inr (3, [.ref u0, .ref u1, .ref u2, .ref u3, .ref u4, .int qn])), (u0, .inl (y 1, 256, .inl qs)), (u1, .inl (y 2, 256, .inr (.inl ql))), (u2, .inl (y 1, 256, .inl qt)), (u3, .inl (y 1, 256, .inl qw)), (u4, .inl (y 2, 256, .inr (.inl qv))), (ae, .inr (1, [.int ek, .int es, .int ew, .long ev]))] s.heap := hP
  have iX2 : ∀ w ∈ wsX20, w ∈ wsX7_apply := by decide +kernel
  have iX7 : ∀ w ∈ wsX70, w ∈ wsX7_apply := by decide +kernel
  have hl := lv_entry ([.ref atb, .ref ae]) (n := 2) (Nat.le_of_ble_eq_true rfl)
  rw [lg_entry_eq]
  generalize (lg_sl ([.ref atb, .ref ae]) ++ List.replicate (2 - (lg_sl ([.ref atb, .ref ae])).length) Slot.unset).toArray = ls at hl ⊢
  have hl : lv_has ls 2 [(0, .ref atb), (1, .ref ae)] := hl
  unfold fX7_apply at hf
  refine lv_aload_n hx hb dX7_apply_0 rfl (lv_at hl 1 rfl) ?_
  refine va_getN (host := RX8) (D := D) (ci := 1) (v := .int ek) (C := RX2) (T := TX2) (N := 4) hx hb hts iX2 hown hK hP 11 rfl rfl 0 (by decide) (va_Nw.use rfl (E.2.2.1.1 (.fieldLinkNest RX7 82 RX2 "kind" "I" RX8) (by decide +kernel))) (fun _ h9 => h9) rfl dX7_apply_1 ?_
  by_cases c_1 : ek = (1 : Int32)
  · have hf := ifp hf c_1
    refine lv_tableIn (off := 44) (tgt := 48) hx hb dX7_apply_4 (by rw [c_1]; decide) (by rw [c_1]; decide) (by rw [c_1]; decide) (by decide) ?_
    refine lv_aload_n hx hb dX7_apply_48 rfl (lv_at hl 0 rfl) ?_
    refine lv_aload_n hx hb dX7_apply_49 rfl (lv_at hl 1 rfl) ?_
    obtain ⟨⟨o_pa_2, o_we_3, o_vo_4, o_sa_5, o_qs_6, o_ql_7, o_qt_8, o_qw_9, o_qv_10, o_qn_11⟩, hc_12, hf⟩ := obd hf
    refine ct_V (As := [.ref ae]) (rest := []) (wr := []) (wn := [(atb, .inr (6, [.ref tp, .ref tw, .ref tv, .ref tf, .ref aq, .int o_sa_5, .long lo])), (tp, .inl (y 1, 121, .inl o_pa_2)), (tw, .inl (y 1, 121, .inl o_we_3)), (tv, .inl (y 2, 121, .inr (.inl o_vo_4))), (tf, .inl (y 3, 121, .inl fm)), (aq, .inr (3, [.ref u0, .ref u1, .ref u2, .ref u3, .ref u4, .int o_qn_11])), (u0, .inl (y 1, 256, .inl o_qs_6)), (u1, .inl (y 2, 256, .inr (.inl o_ql_7))), (u2, .inl (y 1, 256, .inl o_qt_8)), (u3, .inl (y 1, 256, .inl o_qw_9)), (u4, .inl (y 2, 256, .inr (.inl o_qv_10))), (ae, .inr (1, [.int ek, .int es, .int ew, .long ev]))]) hfix (cX7_applyRegister_ok l D y atb tp tw tv tf aq u0 u1 u2 u3 u4 ae ek es ew ev pa we vo fm sa lo qs ql qt qw qv qn _ hc_12) (cwV 1 hts gX7_apply_X7_applyRegister rfl rfl rfl (by decide +kernel) ⟨Nat.le_of_ble_eq_true rfl, Nat.le_of_ble_eq_true rfl⟩) E hP hD hS [0, 1, 2, 3, 4, 5, 6, 7, 8, 9, 10, 11] [] [0, 1, 2, 3, 4, 5, 6, 7, 8, 9, 10, 11] rfl rfl rfl rfl (by decide) rfl rfl 0 6 rfl rfl rfl hl.1 rfl (Nat.le_of_ble_eq_true rfl) dX7_apply_50 ⟨Nat.zero_le _, Nat.zero_le _⟩ (fun H locs hP hD hS => ?_)
    refine W.eq (g2 := F0 m 53 ls []) rfl ?_
    refine lv_goto (tgt := 106) hx hb dX7_apply_53 (by decide) ?_
    obtain rfl := Option.some.inj hf
    exact W.vret hx hb hr (fun t ht hW => ⟨⟨(), rfl, by rw [ht]; exact hP, hD⟩, hS.F ht⟩) hS.2.2 dX7_apply_106
  · have hf := ifn hf c_1
    by_cases c_13 : ek = (2 : Int32)
    · have hf := ifp hf c_13
      refine lv_tableIn (off := 52) (tgt := 56) hx hb dX7_apply_4 (by rw [c_13]; decide) (by rw [c_13]; decide) (by rw [c_13]; decide) (by decide) ?_
      refine lv_aload_n hx hb dX7_apply_56 rfl (lv_at hl 0 rfl) ?_
      refine lv_aload_n hx hb dX7_apply_57 rfl (lv_at hl 1 rfl) ?_
      obtain ⟨⟨o_pa_14, o_we_15, o_vo_16, o_sa_17, o_qs_18, o_ql_19, o_qt_20, o_qw_21, o_qv_22, o_qn_23⟩, hc_24, hf⟩ := obd hf
      refine ct_V (As := [.ref ae]) (rest := []) (wr := []) (wn := [(atb, .inr (6, [.ref tp, .ref tw, .ref tv, .ref tf, .ref aq, .int o_sa_17, .long lo])), (tp, .inl (y 1, 121, .inl o_pa_14)), (tw, .inl (y 1, 121, .inl o_we_15)), (tv, .inl (y 2, 121, .inr (.inl o_vo_16))), (tf, .inl (y 3, 121, .inl fm)), (aq, .inr (3, [.ref u0, .ref u1, .ref u2, .ref u3, .ref u4, .int o_qn_23])), (u0, .inl (y 1, 256, .inl o_qs_18)), (u1, .inl (y 2, 256, .inr (.inl o_ql_19))), (u2, .inl (y 1, 256, .inl o_qt_20)), (u3, .inl (y 1, 256, .inl o_qw_21)), (u4, .inl (y 2, 256, .inr (.inl o_qv_22))), (ae, .inr (1, [.int ek, .int es, .int ew, .long ev]))]) hfix (cX7_applyAliquot_ok l D y atb tp tw tv tf aq u0 u1 u2 u3 u4 ae ek es ew ev pa we vo fm sa lo qs ql qt qw qv qn _ hc_24) (cwV 1 hts gX7_apply_X7_applyAliquot rfl rfl rfl (by decide +kernel) ⟨Nat.le_of_ble_eq_true rfl, Nat.le_of_ble_eq_true rfl⟩) E hP hD hS [0, 1, 2, 3, 4, 5, 6, 7, 8, 9, 10, 11] [] [0, 1, 2, 3, 4, 5, 6, 7, 8, 9, 10, 11] rfl rfl rfl rfl (by decide) rfl rfl 0 6 rfl rfl rfl hl.1 rfl (Nat.le_of_ble_eq_true rfl) dX7_apply_58 ⟨Nat.zero_le _, Nat.zero_le _⟩ (fun H locs hP hD hS => ?_)
      refine W.eq (g2 := F0 m 61 ls []) rfl ?_
      refine lv_goto (tgt := 106) hx hb dX7_apply_61 (by decide) ?_
      obtain rfl := Option.some.inj hf
      exact W.vret hx hb hr (fun t ht hW => ⟨⟨(), rfl, by rw [ht]; exact hP, hD⟩, hS.F ht⟩) hS.2.2 dX7_apply_106
    · have hf := ifn hf c_13
      by_cases c_25 : ek = (3 : Int32)
      · have hf := ifp hf c_25
        refine lv_tableIn (off := 60) (tgt := 64) hx hb dX7_apply_4 (by rw [c_25]; decide) (by rw [c_25]; decide) (by rw [c_25]; decide) (by decide) ?_
        refine lv_aload_n hx hb dX7_apply_64 rfl (lv_at hl 0 rfl) ?_
        refine lv_aload_n hx hb dX7_apply_65 rfl (lv_at hl 1 rfl) ?_
        obtain ⟨⟨o_we_26, o_qs_27, o_ql_28, o_qt_29, o_qw_30, o_qv_31, o_qn_32⟩, hc_33, hf⟩ := obd hf
        refine ct_V (As := [.ref ae]) (rest := []) (wr := []) (wn := [(atb, .inr (6, [.ref tp, .ref tw, .ref tv, .ref tf, .ref aq, .int sa, .long lo])), (tp, .inl (y 1, 121, .inl pa)), (tw, .inl (y 1, 121, .inl o_we_26)), (tv, .inl (y 2, 121, .inr (.inl vo))), (tf, .inl (y 3, 121, .inl fm)), (aq, .inr (3, [.ref u0, .ref u1, .ref u2, .ref u3, .ref u4, .int o_qn_32])), (u0, .inl (y 1, 256, .inl o_qs_27)), (u1, .inl (y 2, 256, .inr (.inl o_ql_28))), (u2, .inl (y 1, 256, .inl o_qt_29)), (u3, .inl (y 1, 256, .inl o_qw_30)), (u4, .inl (y 2, 256, .inr (.inl o_qv_31))), (ae, .inr (1, [.int ek, .int es, .int ew, .long ev]))]) hfix (cX7_applyMove_ok l D y atb tp tw tv tf aq u0 u1 u2 u3 u4 ae ek es ew ev pa we vo fm sa lo qs ql qt qw qv qn _ hc_33) (cwV 1 hts gX7_apply_X7_applyMove rfl rfl rfl (by decide +kernel) ⟨Nat.le_of_ble_eq_true rfl, Nat.le_of_ble_eq_true rfl⟩) E hP hD hS [0, 1, 2, 3, 4, 5, 6, 7, 8, 9, 10, 11] [] [0, 1, 2, 3, 4, 5, 6, 7, 8, 9, 10, 11] rfl rfl rfl rfl (by decide) rfl rfl 0 6 rfl rfl rfl hl.1 rfl (Nat.le_of_ble_eq_true rfl) dX7_apply_66 ⟨Nat.zero_le _, Nat.zero_le _⟩ (fun H locs hP hD hS => ?_)
        refine W.eq (g2 := F0 m 69 ls []) rfl ?_
        refine lv_goto (tgt := 106) hx hb dX7_apply_69 (by decide) ?_
        obtain rfl := Option.some.inj hf
        exact W.vret hx hb hr (fun t ht hW => ⟨⟨(), rfl, by rw [ht]; exact hP, hD⟩, hS.F ht⟩) hS.2.2 dX7_apply_106
      · have hf := ifn hf c_25
        by_cases c_34 : ek = (4 : Int32)
        · have hf := ifp hf c_34
          refine lv_tableIn (off := 68) (tgt := 72) hx hb dX7_apply_4 (by rw [c_34]; decide) (by rw [c_34]; decide) (by rw [c_34]; decide) (by decide) ?_
          refine lv_aload_n hx hb dX7_apply_72 rfl (lv_at hl 0 rfl) ?_
          refine lv_aload_n hx hb dX7_apply_73 rfl (lv_at hl 1 rfl) ?_
          obtain ⟨⟨o_we_35, o_vo_36, o_lo_37, o_qs_38, o_ql_39, o_qt_40, o_qw_41, o_qv_42, o_qn_43⟩, hc_44, hf⟩ := obd hf
          refine ct_V (As := [.ref ae]) (rest := []) (wr := []) (wn := [(atb, .inr (6, [.ref tp, .ref tw, .ref tv, .ref tf, .ref aq, .int sa, .long o_lo_37])), (tp, .inl (y 1, 121, .inl pa)), (tw, .inl (y 1, 121, .inl o_we_35)), (tv, .inl (y 2, 121, .inr (.inl o_vo_36))), (tf, .inl (y 3, 121, .inl fm)), (aq, .inr (3, [.ref u0, .ref u1, .ref u2, .ref u3, .ref u4, .int o_qn_43])), (u0, .inl (y 1, 256, .inl o_qs_38)), (u1, .inl (y 2, 256, .inr (.inl o_ql_39))), (u2, .inl (y 1, 256, .inl o_qt_40)), (u3, .inl (y 1, 256, .inl o_qw_41)), (u4, .inl (y 2, 256, .inr (.inl o_qv_42))), (ae, .inr (1, [.int ek, .int es, .int ew, .long ev]))]) hfix (cX7_applyDiscard_ok l D y atb tp tw tv tf aq u0 u1 u2 u3 u4 ae ek es ew ev pa we vo fm sa lo qs ql qt qw qv qn _ hc_44) (cwV 1 hts gX7_apply_X7_applyDiscard rfl rfl rfl (by decide +kernel) ⟨Nat.le_of_ble_eq_true rfl, Nat.le_of_ble_eq_true rfl⟩) E hP hD hS [0, 1, 2, 3, 4, 5, 6, 7, 8, 9, 10, 11] [] [0, 1, 2, 3, 4, 5, 6, 7, 8, 9, 10, 11] rfl rfl rfl rfl (by decide) rfl rfl 0 6 rfl rfl rfl hl.1 rfl (Nat.le_of_ble_eq_true rfl) dX7_apply_74 ⟨Nat.zero_le _, Nat.zero_le _⟩ (fun H locs hP hD hS => ?_)
          refine W.eq (g2 := F0 m 77 ls []) rfl ?_
          refine lv_goto (tgt := 106) hx hb dX7_apply_77 (by decide) ?_
          obtain rfl := Option.some.inj hf
          exact W.vret hx hb hr (fun t ht hW => ⟨⟨(), rfl, by rw [ht]; exact hP, hD⟩, hS.F ht⟩) hS.2.2 dX7_apply_106
        · have hf := ifn hf c_34
          by_cases c_45 : ek = (5 : Int32)
          · have hf := ifp hf c_45
            refine lv_tableIn (off := 76) (tgt := 80) hx hb dX7_apply_4 (by rw [c_45]; decide) (by rw [c_45]; decide) (by rw [c_45]; decide) (by decide) ?_
            refine lv_aload_n hx hb dX7_apply_80 rfl (lv_at hl 0 rfl) ?_
            obtain ⟨⟨o_we_46, o_vo_47, o_sa_48, o_lo_49, o_qn_50⟩, hc_51, hf⟩ := obd hf
            refine ct_V (As := []) (rest := []) (wr := [(ae, .inr (1, [.int ek, .int es, .int ew, .long ev]))]) (wn := [(atb, .inr (6, [.ref tp, .ref tw, .ref tv, .ref tf, .ref aq, .int o_sa_48, .long o_lo_49])), (tp, .inl (y 1, 121, .inl pa)), (tw, .inl (y 1, 121, .inl o_we_46)), (tv, .inl (y 2, 121, .inr (.inl o_vo_47))), (tf, .inl (y 3, 121, .inl fm)), (aq, .inr (3, [.ref u0, .ref u1, .ref u2, .ref u3, .ref u4, .int o_qn_50])), (u0, .inl (y 1, 256, .inl qs)), (u1, .inl (y 2, 256, .inr (.inl ql))), (u2, .inl (y 1, 256, .inl qt)), (u3, .inl (y 1, 256, .inl qw)), (u4, .inl (y 2, 256, .inr (.inl qv))), (ae, .inr (1, [.int ek, .int es, .int ew, .long ev]))]) hfix (cX7_applyUndo_ok l D y atb tp tw tv tf aq u0 u1 u2 u3 u4 pa we vo fm sa lo qs ql qt qw qv qn _ hc_51) (cwV 0 hts gX7_apply_X7_applyUndo rfl rfl rfl (by decide +kernel) ⟨Nat.le_of_ble_eq_true rfl, Nat.le_of_ble_eq_true rfl⟩) E hP hD hS [0, 1, 2, 3, 4, 5, 6, 7, 8, 9, 10] [11] [1, 2, 3, 4, 5, 6, 7, 8, 9, 10, 11, 0] rfl rfl rfl rfl (by decide) rfl rfl 0 6 rfl rfl rfl hl.1 rfl (Nat.le_of_ble_eq_true rfl) dX7_apply_81 ⟨Nat.zero_le _, Nat.zero_le _⟩ (fun H locs hP hD hS => ?_)
            refine W.eq (g2 := F0 m 84 ls []) rfl ?_
            refine lv_goto (tgt := 106) hx hb dX7_apply_84 (by decide) ?_
            obtain rfl := Option.some.inj hf
            exact W.vret hx hb hr (fun t ht hW => ⟨⟨(), rfl, by rw [ht]; exact hP, hD⟩, hS.F ht⟩) hS.2.2 dX7_apply_106
          · have hf := ifn hf c_45
            by_cases c_52 : ek = (6 : Int32)
            · have hf := ifp hf c_52
              refine lv_tableIn (off := 83) (tgt := 87) hx hb dX7_apply_4 (by rw [c_52]; decide) (by rw [c_52]; decide) (by rw [c_52]; decide) (by decide) ?_
              refine lv_aload_n hx hb dX7_apply_87 rfl (lv_at hl 0 rfl) ?_
              refine lv_aload_n hx hb dX7_apply_88 rfl (lv_at hl 1 rfl) ?_
              obtain ⟨⟨o_pa_53, o_we_54, o_vo_55, o_sa_56⟩, hc_57, hf⟩ := obd hf
              refine ct_V (As := [.ref ae]) (rest := []) (wr := []) (wn := [(atb, .inr (6, [.ref tp, .ref tw, .ref tv, .ref tf, .ref aq, .int o_sa_56, .long lo])), (tp, .inl (y 1, 121, .inl o_pa_53)), (tw, .inl (y 1, 121, .inl o_we_54)), (tv, .inl (y 2, 121, .inr (.inl o_vo_55))), (tf, .inl (y 3, 121, .inl fm)), (aq, .inr (3, [.ref u0, .ref u1, .ref u2, .ref u3, .ref u4, .int qn])), (u0, .inl (y 1, 256, .inl qs)), (u1, .inl (y 2, 256, .inr (.inl ql))), (u2, .inl (y 1, 256, .inl qt)), (u3, .inl (y 1, 256, .inl qw)), (u4, .inl (y 2, 256, .inr (.inl qv))), (ae, .inr (1, [.int ek, .int es, .int ew, .long ev]))]) hfix (cX7_applyKept_ok l D y atb tp tw tv tf aq u0 u1 u2 u3 u4 ae ek es ew ev pa we vo fm sa lo qs ql qt qw qv qn _ hc_57) (cwV 1 hts gX7_apply_X7_applyKept rfl rfl rfl (by decide +kernel) ⟨Nat.le_of_ble_eq_true rfl, Nat.le_of_ble_eq_true rfl⟩) E hP hD hS [0, 1, 2, 3, 4, 5, 6, 7, 8, 9, 10, 11] [] [0, 1, 2, 3, 4, 5, 6, 7, 8, 9, 10, 11] rfl rfl rfl rfl (by decide) rfl rfl 0 6 rfl rfl rfl hl.1 rfl (Nat.le_of_ble_eq_true rfl) dX7_apply_89 ⟨Nat.zero_le _, Nat.zero_le _⟩ (fun H locs hP hD hS => ?_)
              refine W.eq (g2 := F0 m 92 ls []) rfl ?_
              refine lv_goto (tgt := 106) hx hb dX7_apply_92 (by decide) ?_
              obtain rfl := Option.some.inj hf
              exact W.vret hx hb hr (fun t ht hW => ⟨⟨(), rfl, by rw [ht]; exact hP, hD⟩, hS.F ht⟩) hS.2.2 dX7_apply_106
            · have hf := ifn hf c_52
              by_cases c_58 : ek = (7 : Int32)
              · have hf := ifp hf c_58
                refine lv_tableIn (off := 91) (tgt := 95) hx hb dX7_apply_4 (by rw [c_58]; decide) (by rw [c_58]; decide) (by rw [c_58]; decide) (by decide) ?_
                refine lv_aload_n hx hb dX7_apply_95 rfl (lv_at hl 0 rfl) ?_
                refine lv_aload_n hx hb dX7_apply_96 rfl (lv_at hl 1 rfl) ?_
                refine va_getN (host := RX8) (D := D) (ci := 1) (v := .long ev) (C := RX2) (T := TX2) (N := 4) hx hb hts iX2 hown hK hP 11 rfl rfl 3 (by decide) (va_Nw.use rfl (E.2.2.1.1 (.fieldLinkNest RX7 106 RX2 "volume" "J" RX8) (by decide +kernel))) (fun _ h9 => h9) rfl dX7_apply_97 ?_
                refine va_put (D := D) (ci := 6) (v := .long ev) (ty := .long) (C := RX7) (T := TX7) (N := 7) hx hb hts iX7 tyX7 tyX7_ok nmX7 hown hK hP hD hS 0 rfl rfl 6 (by decide) (hts (.fieldLink RX7 37 "SampleTracker$Table" "lost" "J") (by decide +kernel)) (fun _ h9 => h9) rfl (by decide +kernel) rfl rfl (Nat.le_of_ble_eq_true rfl) dX7_apply_100 (fun H locs hP hD hS => ?_)
                have hP : va_P D vwCl [(atb, .inr (6, [.ref tp, .ref tw, .ref tv, .ref tf, .ref aq, .int sa, .long ev])), (tp, .inl (y 1, 121, .inl pa)), (tw, .inl (y 1, 121, .inl we)), (tv, .inl (y 2, 121, .inr (.inl vo))), (tf, .inl (y 3, 121, .inl fm)), (aq, .inr (3, [.ref u0, .ref u1, .ref u2, .ref u3, .ref u4, .int qn])), (u0, .inl (y 1, 256, .inl qs)), (u1, .inl (y 2, 256, .inr (.inl ql))), (u2, .inl (y 1, 256, .inl qt)), (u3, .inl (y 1, 256, .inl qw)), (u4, .inl (y 2, 256, .inr (.inl qv))), (ae, .inr (1, [.int ek, .int es, .int ew, .long ev]))] H := hP
                have hD : va_D A [(atb, .inr (6, [.ref tp, .ref tw, .ref tv, .ref tf, .ref aq, .int sa, .long ev])), (tp, .inl (y 1, 121, .inl pa)), (tw, .inl (y 1, 121, .inl we)), (tv, .inl (y 2, 121, .inr (.inl vo))), (tf, .inl (y 3, 121, .inl fm)), (aq, .inr (3, [.ref u0, .ref u1, .ref u2, .ref u3, .ref u4, .int qn])), (u0, .inl (y 1, 256, .inl qs)), (u1, .inl (y 2, 256, .inr (.inl ql))), (u2, .inl (y 1, 256, .inl qt)), (u3, .inl (y 1, 256, .inl qw)), (u4, .inl (y 2, 256, .inr (.inl qv))), (ae, .inr (1, [.int ek, .int es, .int ew, .long ev]))] := hD
                refine lv_goto (tgt := 106) hx hb dX7_apply_103 (by decide) ?_
                obtain rfl := Option.some.inj hf
                exact W.vret hx hb hr (fun t ht hW => ⟨⟨(), rfl, by rw [ht]; exact hP, hD⟩, hS.F ht⟩) hS.2.2 dX7_apply_106
              · have hf := ifn hf c_58
                have hneg : ek.toInt < 1 ∨ 7 < ek.toInt := by
                  have := lv_neT c_1 (a := 1) (by decide)
                  have := lv_neT c_13 (a := 2) (by decide)
                  have := lv_neT c_25 (a := 3) (by decide)
                  have := lv_neT c_34 (a := 4) (by decide)
                  have := lv_neT c_45 (a := 5) (by decide)
                  have := lv_neT c_52 (a := 6) (by decide)
                  have := lv_neT c_58 (a := 7) (by decide)
                  omega
                refine lv_tableOut (tgt := 106) hx hb dX7_apply_4 hneg (by decide) ?_
                obtain rfl := Option.some.inj hf
                exact W.vret hx hb hr (fun t ht hW => ⟨⟨(), rfl, by rw [ht]; exact hP, hD⟩, hS.F ht⟩) hS.2.2 dX7_apply_106

