/-! 22.model2: laid by wip/whole/gen.py: mirrors and contracts -/
def fX9_liveIn_2 (ms : Int32) (mwe : Nat → Int32) (mli : Nat → Int32) (p1 : Int32) : Nat → Int32 → Option (Int32)
  | 0, _ => none
  | n2 + 1, v2_0 => (if ms < v2_0 then some (-1 : Int32) else (if (ib v2_0 121) = true then (if (mli v2_0.toNatClampNeg) = 0 then fX9_liveIn_2 ms mwe mli p1 n2 (v2_0 + (1 : Int32)) else (if (mwe v2_0.toNatClampNeg) = p1 then some v2_0 else fX9_liveIn_2 ms mwe mli p1 n2 (v2_0 + (1 : Int32)))) else none))

def fX9_liveIn (ms : Int32) (mwe : Nat → Int32) (mli : Nat → Int32) (p1 : Int32) : Option (Int32) := fX9_liveIn_2 ms mwe mli p1 FU (1 : Int32)

set_option maxHeartbeats 4000000 in
set_option maxRecDepth 100000 in
theorem cX9_liveIn_ok (l : Launch) (D : va_G) (y : Nat → ClassId) (am : Nat) (mo : Nat) (m1 : Nat) (m2 : Nat) (m_p : Nat) (m_w : Nat) (m_l : Nat) (m_v : Nat) (m_r : Nat) (m_q : Nat) (nb : Nat) (th : Int32) (mb : Int32) (us : Int32) (me : Int32) (rc : Int32) (dn : Bool) (lf : Int32) (mw : Int32) (mf : Int32) (ms : Int32) (mu : Int32) (ml : Int64) (mz : Int32) (c1 : Nat → Int32) (c2 : Nat → Int32) (mpa : Nat → Int32) (mwe : Nat → Int32) (mli : Nat → Int32) (mvo : Nat → Int64) (mro : Nat → Int32) (mpl : Nat → Int32) (p1 : Int32) (res : Int32) (hf : fX9_liveIn ms mwe mli p1 = some res) : CT l D y yX9_liveIn wsX9_liveIn ({ frames := 0, cells := 0, slots := 0, locals := 0 } : Room) [.ref am, .int p1] [(am, .inr (8, [.int th, .int mb, .ref mo, .int us, .int me, .int rc, .int (zb dn), .int lf, .int mw, .int mf, .ref m_p, .ref m_w, .ref m_l, .ref m_v, .int ms, .int mu, .long ml, .ref m_r, .int mz, .ref m_q])), (mo, .inl (y 4, 2, .inr (.inr (.inr (.inr (outr m1 m2)))))), (m1, .inl (y 0, nb, .inl c1)), (m2, .inl (y 0, nb, .inl c2)), (m_p, .inl (y 1, 121, .inl mpa)), (m_w, .inl (y 1, 121, .inl mwe)), (m_l, .inl (y 3, 121, .inl mli)), (m_v, .inl (y 2, 121, .inr (.inl mvo))), (m_r, .inl (y 0, 32, .inl mro)), (m_q, .inl (y 1, 260, .inl mpl))] (some (.int res)) [(am, .inr (8, [.int th, .int mb, .ref mo, .int us, .int me, .int rc, .int (zb dn), .int lf, .int mw, .int mf, .ref m_p, .ref m_w, .ref m_l, .ref m_v, .int ms, .int mu, .long ml, .ref m_r, .int mz, .ref m_q])), (mo, .inl (y 4, 2, .inr (.inr (.inr (.inr (outr m1 m2)))))), (m1, .inl (y 0, nb, .inl c1)), (m2, .inl (y 0, nb, .inl c2)), (m_p, .inl (y 1, 121, .inl mpa)), (m_w, .inl (y 1, 121, .inl mwe)), (m_l, .inl (y 3, 121, .inl mli)), (m_v, .inl (y 2, 121, .inr (.inl mvo))), (m_r, .inl (y 0, 32, .inl mro)), (m_q, .inl (y 1, 260, .inl mpl))] := by
  intro sz
  refine Met.ofW (cc := cX9_liveIn) (maxL := 3) (ret := (some .int)) (by decide) rfl ?_
  intro p e s m args below meth c s₁ B hml hv
  obtain ⟨rfl, hsz, hP, hK, hD0, hst, hno⟩ := hv
  have hx := B.exec
  have hb := B.bytes
  have hr := B.returns
  have hts := atoms_spec (ws := wsX9_liveIn) B.pre
  have hown : s.vm.findClass RX9 = some m.cls := findClass_of_methodNamed B.named
  have hlocks := B.notSynchronized
  subst hsz
  have hD := hD0.self (sz := s.heap.size)
  generalize hAe : va_A [(am, .inr (8, [.int th, .int mb, .ref mo, .int us, .int me, .int rc, .int (zb dn), .int lf, .int mw, .int mf, .ref m_p, .ref m_w, .ref m_l, .ref m_v, .int ms, .int mu, .long ml, .ref m_r, .int mz, .ref m_q])), (mo, .inl (y 4, 2, .inr (.inr (.inr (.inr (outr m1 m2)))))), (m1, .inl (y 0, nb, .inl c1)), (m2, .inl (y 0, nb, .inl c2)), (m_p, .inl (y 1, 121, .inl mpa)), (m_w, .inl (y 1, 121, .inl mwe)), (m_l, .inl (y 3, 121, .inl mli)), (m_v, .inl (y 2, 121, .inr (.inl mvo))), (m_r, .inl (y 0, 32, .inl mro)), (m_q, .inl (y 1, 260, .inl mpl))] s.heap.size = A at hD hst ⊢
  have hA : ∀ q : Nat, s.heap.size ≤ q → A q := fun q h => by rw [← hAe]; exact Or.inr h
  have hS : va_S A s.heap s.heap [] := va_S.rf
  have E : Ev D y A s := ⟨hK, hst, hno, hA⟩
  have hfix : CallFix p m c cX9_liveIn 3 s _ wsX9_liveIn RX9 := ⟨hx, hb, hml, hown, hts⟩
  have hP : va_P D vwCl [(am, .inr (8, [.int th, .int mb, .ref mo, .int us, .int me, .int rc, .int (zb dn), .int lf, .int mw, .int mf, .ref m_p, .ref m_w, .ref m_l, .ref m_v, .int ms, .int mu, .long ml, .ref m_r, .int mz, .ref m_q])), (mo, .inl (y 4, 2, .inr (.inr (.inr (.inr (outr m1 m2)))))), (m1, .inl (y 0, nb, .inl c1)), (m2, .inl (y 0, nb, .inl c2)), (m_p, .inl (y 1, 121, .inl mpa)), (m_w, .inl (y 1, 121, .inl mwe)), (m_l, .inl (y 3, 121, .inl mli)), (m_v, .inl (y 2, 121, .inr (.inl mvo))), (m_r, .inl (y 0, 32, .inl mro)), (m_q, .inl (y 1, 260, .inl mpl))] s.heap := hP
  have iX9 : ∀ w ∈ wsX90, w ∈ wsX9_liveIn := by decide +kernel
  have hl := lv_entry ([.ref am, .int p1]) (n := 3) (Nat.le_of_ble_eq_true rfl)
  rw [lg_entry_eq]
  generalize (lg_sl ([.ref am, .int p1]) ++ List.replicate (3 - (lg_sl ([.ref am, .int p1])).length) Slot.unset).toArray = ls at hl ⊢
  have hl : lv_has ls 3 [(0, .ref am), (1, .int p1)] := hl
  have hL2 : ∀ (n2 : Nat) (v2_0 : Int32) (H : Heap) (locs : List Loc) (ls : Array Slot), fX9_liveIn_2 ms mwe mli p1 n2 v2_0 = some res → va_P D vwCl [(am, .inr (8, [.int th, .int mb, .ref mo, .int us, .int me, .int rc, .int (zb dn), .int lf, .int mw, .int mf, .ref m_p, .ref m_w, .ref m_l, .ref m_v, .int ms, .int mu, .long ml, .ref m_r, .int mz, .ref m_q])), (mo, .inl (y 4, 2, .inr (.inr (.inr (.inr (outr m1 m2)))))), (m1, .inl (y 0, nb, .inl c1)), (m2, .inl (y 0, nb, .inl c2)), (m_p, .inl (y 1, 121, .inl mpa)), (m_w, .inl (y 1, 121, .inl mwe)), (m_l, .inl (y 3, 121, .inl mli)), (m_v, .inl (y 2, 121, .inr (.inl mvo))), (m_r, .inl (y 0, 32, .inl mro)), (m_q, .inl (y 1, 260, .inl mpl))] H → va_D A [(am, .inr (8, [.int th, .int mb, .ref mo, .int us, .int me, .int rc, .int (zb dn), .int lf, .int mw, .int mf, .ref m_p, .ref m_w, .ref m_l, .ref m_v, .int ms, .int mu, .long ml, .ref m_r, .int mz, .ref m_q])), (mo, .inl (y 4, 2, .inr (.inr (.inr (.inr (outr m1 m2)))))), (m1, .inl (y 0, nb, .inl c1)), (m2, .inl (y 0, nb, .inl c2)), (m_p, .inl (y 1, 121, .inl mpa)), (m_w, .inl (y 1, 121, .inl mwe)), (m_l, .inl (y 3, 121, .inl mli)), (m_v, .inl (y 2, 121, .inr (.inl mvo))), (m_r, .inl (y 0, 32, .inl mro)), (m_q, .inl (y 1, 260, .inl mpl))] → va_S A s.heap H locs → lv_has ls 3 [(0, .ref am), (1, .int p1), (2, .int v2_0)] → W p l e (headSpec wsX9_liveIn ({ frames := 0, cells := 0, slots := 0, locals := 0 } : Room)).room s m ([.ref am, .int p1] : List Value).toArray below meth c H locs 0 0 (MQ below (Po D (fun _ : Unit => some (.int res)) (fun _ => [(am, .inr (8, [.int th, .int mb, .ref mo, .int us, .int me, .int rc, .int (zb dn), .int lf, .int mw, .int mf, .ref m_p, .ref m_w, .ref m_l, .ref m_v, .int ms, .int mu, .long ml, .ref m_r, .int mz, .ref m_q])), (mo, .inl (y 4, 2, .inr (.inr (.inr (.inr (outr m1 m2)))))), (m1, .inl (y 0, nb, .inl c1)), (m2, .inl (y 0, nb, .inl c2)), (m_p, .inl (y 1, 121, .inl mpa)), (m_w, .inl (y 1, 121, .inl mwe)), (m_l, .inl (y 3, 121, .inl mli)), (m_v, .inl (y 2, 121, .inr (.inl mvo))), (m_r, .inl (y 0, 32, .inl mro)), (m_q, .inl (y 1, 260, .inl mpl))]) A) ([.ref am, .int p1] : List Value).toArray s 0 0 A) (F0 m 2 ls []) := by
    intro n2
    induction n2 with
    | zero =>
      intro v2_0 H locs ls hf
      exact absurd (show (none : Option (Int32)) = some res from hf) (fun q => by cases q)
    | succ n2 ih2 =>
      intro v2_0 H locs ls hf hP hD hS hl
      unfold fX9_liveIn_2 at hf
      refine lv_iload_n hx hb dX9_liveIn_2 rfl (lv_at hl 2 rfl) ?_
      refine lv_aload_n hx hb dX9_liveIn_3 rfl (lv_at hl 0 rfl) ?_
      refine va_get (D := D) (ci := 8) (v := .int ms) (C := RX9) (T := TX9) (N := 20) hx hb hts iX9 hown hK hP 0 rfl rfl 14 (by decide) (hts (.fieldLink RX9 115 "SampleTrackerModel" "samples" "I") (by decide +kernel)) (fun _ h9 => h9) rfl dX9_liveIn_4 ?_
      refine lv_icmp_gt (tgt := 37) hx hb dX9_liveIn_7 (by decide) (fun c_1 => ?_) (fun c_1 => ?_)
      · have hf := ifp hf c_1
        refine lv_iconst (v := (-1 : Int32)) hx hb dX9_liveIn_37 (by decide) ?_
        obtain rfl := Option.some.inj hf
        exact W.iret hx hb hr (fun t ht hW => ⟨⟨(), rfl, by rw [ht]; exact hP, hD⟩, hS.F ht⟩) hS.2.2 dX9_liveIn_38
      · have hf := ifn hf c_1
        refine lv_aload_n hx hb dX9_liveIn_10 rfl (lv_at hl 0 rfl) ?_
        refine va_get (D := D) (ci := 8) (v := .ref m_l) (C := RX9) (T := TX9) (N := 20) hx hb hts iX9 hown hK hP 0 rfl rfl 12 (by decide) (hts (.fieldLink RX9 20 "SampleTrackerModel" "live" "[Z") (by decide +kernel)) (fun _ h9 => h9) rfl dX9_liveIn_11 ?_
        refine lv_iload_n hx hb dX9_liveIn_14 rfl (lv_at hl 2 rfl) ?_
        obtain ⟨h_2, hf⟩ := ibk hf
        refine va_zald hx hb hK hP 6 3 rfl rfl (ib_in h_2) dX9_liveIn_15 ?_
        refine lv_if_eq (tgt := 31) hx hb dX9_liveIn_16 (by decide) (fun c_3 => ?_) (fun c_3 => ?_)
        · have hf := ifp hf c_3
          refine lv_iinc (v := (v2_0 + (1 : Int32))) (lv' := [(2, .int (v2_0 + (1 : Int32))), (0, .ref am), (1, .int p1)]) hx hb dX9_liveIn_31 hl (k := 2) rfl rfl (by decide) rfl (fun ls hl => ?_)
          refine lv_goto (tgt := 2) hx hb dX9_liveIn_34 (by decide) ?_
          exact ih2 (v2_0 + (1 : Int32)) _ _ _ hf hP hD hS (lv_sub hl [1, 2, 0] rfl)
        · have hf := ifn hf c_3
          refine lv_aload_n hx hb dX9_liveIn_19 rfl (lv_at hl 0 rfl) ?_
          refine va_get (D := D) (ci := 8) (v := .ref m_w) (C := RX9) (T := TX9) (N := 20) hx hb hts iX9 hown hK hP 0 rfl rfl 11 (by decide) (hts (.fieldLink RX9 17 "SampleTrackerModel" "well" "[I") (by decide +kernel)) (fun _ h9 => h9) rfl dX9_liveIn_20 ?_
          refine lv_iload_n hx hb dX9_liveIn_23 rfl (lv_at hl 2 rfl) ?_
          refine va_iald hx hb hK hP 5 1 rfl rfl (ib_in h_2) dX9_liveIn_24 ?_
          refine lv_iload_n hx hb dX9_liveIn_25 rfl (lv_at hl 1 rfl) ?_
          refine lv_icmp_ne (tgt := 31) hx hb dX9_liveIn_26 (by decide) (fun c_5 => ?_) (fun c_5 => ?_)
          · have hf := ifn hf c_5
            refine lv_iinc (v := (v2_0 + (1 : Int32))) (lv' := [(2, .int (v2_0 + (1 : Int32))), (0, .ref am), (1, .int p1)]) hx hb dX9_liveIn_31 hl (k := 2) rfl rfl (by decide) rfl (fun ls hl => ?_)
            refine lv_goto (tgt := 2) hx hb dX9_liveIn_34 (by decide) ?_
            exact ih2 (v2_0 + (1 : Int32)) _ _ _ hf hP hD hS (lv_sub hl [1, 2, 0] rfl)
          · have hf := ifp hf c_5
            refine lv_iload_n hx hb dX9_liveIn_29 rfl (lv_at hl 2 rfl) ?_
            obtain rfl := Option.some.inj hf
            exact W.iret hx hb hr (fun t ht hW => ⟨⟨(), rfl, by rw [ht]; exact hP, hD⟩, hS.F ht⟩) hS.2.2 dX9_liveIn_30
  unfold fX9_liveIn at hf
  refine lv_iconst (v := (1 : Int32)) hx hb dX9_liveIn_0 (by decide) ?_
  refine lv_istore_n (lv' := [(2, .int (1 : Int32)), (0, .ref am), (1, .int p1)]) hx hb dX9_liveIn_1 rfl hl (by decide) rfl (fun ls hl => ?_)
  exact hL2 FU (1 : Int32) _ _ _ hf hP hD hS (lv_sub hl [1, 2, 0] rfl)

def fX9_isLive (ms : Int32) (mli : Nat → Int32) (p1 : Int32) : Option (Bool) := (if p1 ≤ 0 then some false else (if ms < p1 then some false else (if (ib p1 121) = true then (if (mli p1.toNatClampNeg) = 0 then some false else some true) else none)))

set_option maxHeartbeats 4000000 in
set_option maxRecDepth 100000 in
theorem cX9_isLive_ok (l : Launch) (D : va_G) (y : Nat → ClassId) (am : Nat) (mo : Nat) (m1 : Nat) (m2 : Nat) (m_p : Nat) (m_w : Nat) (m_l : Nat) (m_v : Nat) (m_r : Nat) (m_q : Nat) (nb : Nat) (th : Int32) (mb : Int32) (us : Int32) (me : Int32) (rc : Int32) (dn : Bool) (lf : Int32) (mw : Int32) (mf : Int32) (ms : Int32) (mu : Int32) (ml : Int64) (mz : Int32) (c1 : Nat → Int32) (c2 : Nat → Int32) (mpa : Nat → Int32) (mwe : Nat → Int32) (mli : Nat → Int32) (mvo : Nat → Int64) (mro : Nat → Int32) (mpl : Nat → Int32) (p1 : Int32) (res : Bool) (hf : fX9_isLive ms mli p1 = some res) : CT l D y yX9_isLive wsX9_isLive ({ frames := 0, cells := 0, slots := 0, locals := 0 } : Room) [.ref am, .int p1] [(am, .inr (8, [.int th, .int mb, .ref mo, .int us, .int me, .int rc, .int (zb dn), .int lf, .int mw, .int mf, .ref m_p, .ref m_w, .ref m_l, .ref m_v, .int ms, .int mu, .long ml, .ref m_r, .int mz, .ref m_q])), (mo, .inl (y 4, 2, .inr (.inr (.inr (.inr (outr m1 m2)))))), (m1, .inl (y 0, nb, .inl c1)), (m2, .inl (y 0, nb, .inl c2)), (m_p, .inl (y 1, 121, .inl mpa)), (m_w, .inl (y 1, 121, .inl mwe)), (m_l, .inl (y 3, 121, .inl mli)), (m_v, .inl (y 2, 121, .inr (.inl mvo))), (m_r, .inl (y 0, 32, .inl mro)), (m_q, .inl (y 1, 260, .inl mpl))] (some (.int (zb res))) [(am, .inr (8, [.int th, .int mb, .ref mo, .int us, .int me, .int rc, .int (zb dn), .int lf, .int mw, .int mf, .ref m_p, .ref m_w, .ref m_l, .ref m_v, .int ms, .int mu, .long ml, .ref m_r, .int mz, .ref m_q])), (mo, .inl (y 4, 2, .inr (.inr (.inr (.inr (outr m1 m2)))))), (m1, .inl (y 0, nb, .inl c1)), (m2, .inl (y 0, nb, .inl c2)), (m_p, .inl (y 1, 121, .inl mpa)), (m_w, .inl (y 1, 121, .inl mwe)), (m_l, .inl (y 3, 121, .inl mli)), (m_v, .inl (y 2, 121, .inr (.inl mvo))), (m_r, .inl (y 0, 32, .inl mro)), (m_q, .inl (y 1, 260, .inl mpl))] := by
  intro sz
  refine Met.ofW (cc := cX9_isLive) (maxL := 2) (ret := (some .boolean)) (by decide) rfl ?_
  intro p e s m args below meth c s₁ B hml hv
  obtain ⟨rfl, hsz, hP, hK, hD0, hst, hno⟩ := hv
  have hx := B.exec
  have hb := B.bytes
  have hr := B.returns
  have hts := atoms_spec (ws := wsX9_isLive) B.pre
  have hown : s.vm.findClass RX9 = some m.cls := findClass_of_methodNamed B.named
  have hlocks := B.notSynchronized
  subst hsz
  have hD := hD0.self (sz := s.heap.size)
  generalize hAe : va_A [(am, .inr (8, [.int th, .int mb, .ref mo, .int us, .int me, .int rc, .int (zb dn), .int lf, .int mw, .int mf, .ref m_p, .ref m_w, .ref m_l, .ref m_v, .int ms, .int mu, .long ml, .ref m_r, .int mz, .ref m_q])), (mo, .inl (y 4, 2, .inr (.inr (.inr (.inr (outr m1 m2)))))), (m1, .inl (y 0, nb, .inl c1)), (m2, .inl (y 0, nb, .inl c2)), (m_p, .inl (y 1, 121, .inl mpa)), (m_w, .inl (y 1, 121, .inl mwe)), (m_l, .inl (y 3, 121, .inl mli)), (m_v, .inl (y 2, 121, .inr (.inl mvo))), (m_r, .inl (y 0, 32, .inl mro)), (m_q, .inl (y 1, 260, .inl mpl))] s.heap.size = A at hD hst ⊢
  have hA : ∀ q : Nat, s.heap.size ≤ q → A q := fun q h => by rw [← hAe]; exact Or.inr h
  have hS : va_S A s.heap s.heap [] := va_S.rf
  have E : Ev D y A s := ⟨hK, hst, hno, hA⟩
  have hfix : CallFix p m c cX9_isLive 2 s _ wsX9_isLive RX9 := ⟨hx, hb, hml, hown, hts⟩
  have hP : va_P D vwCl [(am, .inr (8, [.int th, .int mb, .ref mo, .int us, .int me, .int rc, .int (zb dn), .int lf, .int mw, .int mf, .ref m_p, .ref m_w, .ref m_l, .ref m_v, .int ms, .int mu, .long ml, .ref m_r, .int mz, .ref m_q])), (mo, .inl (y 4, 2, .inr (.inr (.inr (.inr (outr m1 m2)))))), (m1, .inl (y 0, nb, .inl c1)), (m2, .inl (y 0, nb, .inl c2)), (m_p, .inl (y 1, 121, .inl mpa)), (m_w, .inl (y 1, 121, .inl mwe)), (m_l, .inl (y 3, 121, .inl mli)), (m_v, .inl (y 2, 121, .inr (.inl mvo))), (m_r, .inl (y 0, 32, .inl mro)), (m_q, .inl (y 1, 260, .inl mpl))] s.heap := hP
  have iX9 : ∀ w ∈ wsX90, w ∈ wsX9_isLive := by decide +kernel
  have hl := lv_entry ([.ref am, .int p1]) (n := 2) (Nat.le_of_ble_eq_true rfl)
  rw [lg_entry_eq]
  generalize (lg_sl ([.ref am, .int p1]) ++ List.replicate (2 - (lg_sl ([.ref am, .int p1])).length) Slot.unset).toArray = ls at hl ⊢
  have hl : lv_has ls 2 [(0, .ref am), (1, .int p1)] := hl
  unfold fX9_isLive at hf
  refine lv_iload_n hx hb dX9_isLive_0 rfl (lv_at hl 1 rfl) ?_
  refine lv_if_le (tgt := 25) hx hb dX9_isLive_1 (by decide) (fun c_1 => ?_) (fun c_1 => ?_)
  · have hf := ifp hf c_1
    refine lv_iconst (v := (0 : Int32)) hx hb dX9_isLive_25 (by decide) ?_
    obtain rfl := Option.some.inj hf
    exact W.zret (ty := .boolean) hx hb hr rfl (fun t ht hW => ⟨⟨(), rfl, by rw [ht]; exact hP, hD⟩, hS.F ht⟩) hS.2.2 dX9_isLive_26
  · have hf := ifn hf c_1
    refine lv_iload_n hx hb dX9_isLive_4 rfl (lv_at hl 1 rfl) ?_
    refine lv_aload_n hx hb dX9_isLive_5 rfl (lv_at hl 0 rfl) ?_
    refine va_get (D := D) (ci := 8) (v := .int ms) (C := RX9) (T := TX9) (N := 20) hx hb hts iX9 hown hK hP 0 rfl rfl 14 (by decide) (hts (.fieldLink RX9 115 "SampleTrackerModel" "samples" "I") (by decide +kernel)) (fun _ h9 => h9) rfl dX9_isLive_6 ?_
    refine lv_icmp_gt (tgt := 25) hx hb dX9_isLive_9 (by decide) (fun c_2 => ?_) (fun c_2 => ?_)
    · have hf := ifp hf c_2
      refine lv_iconst (v := (0 : Int32)) hx hb dX9_isLive_25 (by decide) ?_
      obtain rfl := Option.some.inj hf
      exact W.zret (ty := .boolean) hx hb hr rfl (fun t ht hW => ⟨⟨(), rfl, by rw [ht]; exact hP, hD⟩, hS.F ht⟩) hS.2.2 dX9_isLive_26
    · have hf := ifn hf c_2
      refine lv_aload_n hx hb dX9_isLive_12 rfl (lv_at hl 0 rfl) ?_
      refine va_get (D := D) (ci := 8) (v := .ref m_l) (C := RX9) (T := TX9) (N := 20) hx hb hts iX9 hown hK hP 0 rfl rfl 12 (by decide) (hts (.fieldLink RX9 20 "SampleTrackerModel" "live" "[Z") (by decide +kernel)) (fun _ h9 => h9) rfl dX9_isLive_13 ?_
      refine lv_iload_n hx hb dX9_isLive_16 rfl (lv_at hl 1 rfl) ?_
      obtain ⟨h_3, hf⟩ := ibk hf
      refine va_zald hx hb hK hP 6 3 rfl rfl (ib_in h_3) dX9_isLive_17 ?_
      refine lv_if_eq (tgt := 25) hx hb dX9_isLive_18 (by decide) (fun c_4 => ?_) (fun c_4 => ?_)
      · have hf := ifp hf c_4
        refine lv_iconst (v := (0 : Int32)) hx hb dX9_isLive_25 (by decide) ?_
        obtain rfl := Option.some.inj hf
        exact W.zret (ty := .boolean) hx hb hr rfl (fun t ht hW => ⟨⟨(), rfl, by rw [ht]; exact hP, hD⟩, hS.F ht⟩) hS.2.2 dX9_isLive_26
      · have hf := ifn hf c_4
        refine lv_iconst (v := (1 : Int32)) hx hb dX9_isLive_21 (by decide) ?_
        refine lv_goto (tgt := 26) hx hb dX9_isLive_22 (by decide) ?_
        obtain rfl := Option.some.inj hf
        exact W.zret (ty := .boolean) hx hb hr rfl (fun t ht hW => ⟨⟨(), rfl, by rw [ht]; exact hP, hD⟩, hS.F ht⟩) hS.2.2 dX9_isLive_26

def fX9_isWell (p1 : Int32) : Option (Bool) := (if p1 < 0 then some false else (if (48 : Int32) ≤ p1 then some false else some true))

set_option maxHeartbeats 4000000 in
set_option maxRecDepth 100000 in
theorem cX9_isWell_ok (l : Launch) (D : va_G) (y : Nat → ClassId) (p1 : Int32) (res : Bool) (hf : fX9_isWell p1 = some res) : CT l D y yX9_isWell wsX9_isWell ({ frames := 0, cells := 0, slots := 0, locals := 0 } : Room) [.int p1] [] (some (.int (zb res))) [] := by
  intro sz
  refine Met.ofW (cc := cX9_isWell) (maxL := 1) (ret := (some .boolean)) (by decide) rfl ?_
  intro p e s m args below meth c s₁ B hml hv
  obtain ⟨rfl, hsz, hP, hK, hD0, hst, hno⟩ := hv
  have hx := B.exec
  have hb := B.bytes
  have hr := B.returns
  have hts := atoms_spec (ws := wsX9_isWell) B.pre
  have hown : s.vm.findClass RX9 = some m.cls := findClass_of_methodNamed B.named
  have hlocks := B.notSynchronized
  subst hsz
  have hD := hD0.self (sz := s.heap.size)
  generalize hAe : va_A [] s.heap.size = A at hD hst ⊢
  have hA : ∀ q : Nat, s.heap.size ≤ q → A q := fun q h => by rw [← hAe]; exact Or.inr h
  have hS : va_S A s.heap s.heap [] := va_S.rf
  have E : Ev D y A s := ⟨hK, hst, hno, hA⟩
  have hfix : CallFix p m c cX9_isWell 1 s _ wsX9_isWell RX9 := ⟨hx, hb, hml, hown, hts⟩
  have hP : va_P D vwCl [] s.heap := hP
  have hl := lv_entry ([.int p1]) (n := 1) (Nat.le_of_ble_eq_true rfl)
  rw [lg_entry_eq]
  generalize (lg_sl ([.int p1]) ++ List.replicate (1 - (lg_sl ([.int p1])).length) Slot.unset).toArray = ls at hl ⊢
  have hl : lv_has ls 1 [(0, .int p1)] := hl
  unfold fX9_isWell at hf
  refine lv_iload_n hx hb dX9_isWell_0 rfl (lv_at hl 0 rfl) ?_
  refine lv_if_lt (tgt := 14) hx hb dX9_isWell_1 (by decide) (fun c_1 => ?_) (fun c_1 => ?_)
  · have hf := ifp hf c_1
    refine lv_iconst (v := (0 : Int32)) hx hb dX9_isWell_14 (by decide) ?_
    obtain rfl := Option.some.inj hf
    exact W.zret (ty := .boolean) hx hb hr rfl (fun t ht hW => ⟨⟨(), rfl, by rw [ht]; exact hP, hD⟩, hS.F ht⟩) hS.2.2 dX9_isWell_15
  · have hf := ifn hf c_1
    refine lv_iload_n hx hb dX9_isWell_4 rfl (lv_at hl 0 rfl) ?_
    refine lv_bipush (v := (48 : Int32)) hx hb dX9_isWell_5 (by decide) ?_
    refine lv_icmp_ge (tgt := 14) hx hb dX9_isWell_7 (by decide) (fun c_2 => ?_) (fun c_2 => ?_)
    · have hf := ifp hf c_2
      refine lv_iconst (v := (0 : Int32)) hx hb dX9_isWell_14 (by decide) ?_
      obtain rfl := Option.some.inj hf
      exact W.zret (ty := .boolean) hx hb hr rfl (fun t ht hW => ⟨⟨(), rfl, by rw [ht]; exact hP, hD⟩, hS.F ht⟩) hS.2.2 dX9_isWell_15
    · have hf := ifn hf c_2
      refine lv_iconst (v := (1 : Int32)) hx hb dX9_isWell_10 (by decide) ?_
      refine lv_goto (tgt := 15) hx hb dX9_isWell_11 (by decide) ?_
      obtain rfl := Option.some.inj hf
      exact W.zret (ty := .boolean) hx hb hr rfl (fun t ht hW => ⟨⟨(), rfl, by rw [ht]; exact hP, hD⟩, hS.F ht⟩) hS.2.2 dX9_isWell_15

def fX9_liveVolume_4 (ms : Int32) (mvo : Nat → Int64) : Nat → Int64 → Int32 → Option (Int64)
  | 0, _, _ => none
  | n4 + 1, v4_0, v4_1 => (if ms < v4_1 then some v4_0 else (if (ib v4_1 121) = true then fX9_liveVolume_4 ms mvo n4 (v4_0 + (mvo v4_1.toNatClampNeg)) (v4_1 + (1 : Int32)) else none))

def fX9_liveVolume (ms : Int32) (mvo : Nat → Int64) : Option (Int64) := fX9_liveVolume_4 ms mvo FU (0 : Int64) (1 : Int32)

set_option maxHeartbeats 4000000 in
set_option maxRecDepth 100000 in
theorem cX9_liveVolume_ok (l : Launch) (D : va_G) (y : Nat → ClassId) (am : Nat) (mo : Nat) (m1 : Nat) (m2 : Nat) (m_p : Nat) (m_w : Nat) (m_l : Nat) (m_v : Nat) (m_r : Nat) (m_q : Nat) (nb : Nat) (th : Int32) (mb : Int32) (us : Int32) (me : Int32) (rc : Int32) (dn : Bool) (lf : Int32) (mw : Int32) (mf : Int32) (ms : Int32) (mu : Int32) (ml : Int64) (mz : Int32) (c1 : Nat → Int32) (c2 : Nat → Int32) (mpa : Nat → Int32) (mwe : Nat → Int32) (mli : Nat → Int32) (mvo : Nat → Int64) (mro : Nat → Int32) (mpl : Nat → Int32) (res : Int64) (hf : fX9_liveVolume ms mvo = some res) : CT l D y yX9_liveVolume wsX9_liveVolume ({ frames := 0, cells := 0, slots := 0, locals := 0 } : Room) [.ref am] [(am, .inr (8, [.int th, .int mb, .ref mo, .int us, .int me, .int rc, .int (zb dn), .int lf, .int mw, .int mf, .ref m_p, .ref m_w, .ref m_l, .ref m_v, .int ms, .int mu, .long ml, .ref m_r, .int mz, .ref m_q])), (mo, .inl (y 4, 2, .inr (.inr (.inr (.inr (outr m1 m2)))))), (m1, .inl (y 0, nb, .inl c1)), (m2, .inl (y 0, nb, .inl c2)), (m_p, .inl (y 1, 121, .inl mpa)), (m_w, .inl (y 1, 121, .inl mwe)), (m_l, .inl (y 3, 121, .inl mli)), (m_v, .inl (y 2, 121, .inr (.inl mvo))), (m_r, .inl (y 0, 32, .inl mro)), (m_q, .inl (y 1, 260, .inl mpl))] (some (.long res)) [(am, .inr (8, [.int th, .int mb, .ref mo, .int us, .int me, .int rc, .int (zb dn), .int lf, .int mw, .int mf, .ref m_p, .ref m_w, .ref m_l, .ref m_v, .int ms, .int mu, .long ml, .ref m_r, .int mz, .ref m_q])), (mo, .inl (y 4, 2, .inr (.inr (.inr (.inr (outr m1 m2)))))), (m1, .inl (y 0, nb, .inl c1)), (m2, .inl (y 0, nb, .inl c2)), (m_p, .inl (y 1, 121, .inl mpa)), (m_w, .inl (y 1, 121, .inl mwe)), (m_l, .inl (y 3, 121, .inl mli)), (m_v, .inl (y 2, 121, .inr (.inl mvo))), (m_r, .inl (y 0, 32, .inl mro)), (m_q, .inl (y 1, 260, .inl mpl))] := by
  intro sz
  refine Met.ofW (cc := cX9_liveVolume) (maxL := 4) (ret := (some .long)) (by decide) rfl ?_
  intro p e s m args below meth c s₁ B hml hv
  obtain ⟨rfl, hsz, hP, hK, hD0, hst, hno⟩ := hv
  have hx := B.exec
  have hb := B.bytes
  have hr := B.returns
  have hts := atoms_spec (ws := wsX9_liveVolume) B.pre
  have hown : s.vm.findClass RX9 = some m.cls := findClass_of_methodNamed B.named
  have hlocks := B.notSynchronized
  subst hsz
  have hD := hD0.self (sz := s.heap.size)
  generalize hAe : va_A [(am, .inr (8, [.int th, .int mb, .ref mo, .int us, .int me, .int rc, .int (zb dn), .int lf, .int mw, .int mf, .ref m_p, .ref m_w, .ref m_l, .ref m_v, .int ms, .int mu, .long ml, .ref m_r, .int mz, .ref m_q])), (mo, .inl (y 4, 2, .inr (.inr (.inr (.inr (outr m1 m2)))))), (m1, .inl (y 0, nb, .inl c1)), (m2, .inl (y 0, nb, .inl c2)), (m_p, .inl (y 1, 121, .inl mpa)), (m_w, .inl (y 1, 121, .inl mwe)), (m_l, .inl (y 3, 121, .inl mli)), (m_v, .inl (y 2, 121, .inr (.inl mvo))), (m_r, .inl (y 0, 32, .inl mro)), (m_q, .inl (y 1, 260, .inl mpl))] s.heap.size = A at hD hst ⊢
  have hA : ∀ q : Nat, s.heap.size ≤ q → A q := fun q h => by rw [← hAe]; exact Or.inr h
  have hS : va_S A s.heap s.heap [] := va_S.rf
  have E : Ev D y A s := ⟨hK, hst, hno, hA⟩
  have hfix : CallFix p m c cX9_liveVolume 4 s _ wsX9_liveVolume RX9 := ⟨hx, hb, hml, hown, hts⟩
  have hP : va_P D vwCl [(am, .inr (8, [.int th, .int mb, .ref mo, .int us, .int me, .int rc, .int (zb dn), .int lf, .int mw, .int mf, .ref m_p, .ref m_w, .ref m_l, .ref m_v, .int ms, .int mu, .long ml, .ref m_r, .int mz, .ref m_q])), (mo, .inl (y 4, 2, .inr (.inr (.inr (.inr (outr m1 m2)))))), (m1, .inl (y 0, nb, .inl c1)), (m2, .inl (y 0, nb, .inl c2)), (m_p, .inl (y 1, 121, .inl mpa)), (m_w, .inl (y 1, 121, .inl mwe)), (m_l, .inl (y 3, 121, .inl mli)), (m_v, .inl (y 2, 121, .inr (.inl mvo))), (m_r, .inl (y 0, 32, .inl mro)), (m_q, .inl (y 1, 260, .inl mpl))] s.heap := hP
  have iX9 : ∀ w ∈ wsX90, w ∈ wsX9_liveVolume := by decide +kernel
  have hl := lv_entry ([.ref am]) (n := 4) (Nat.le_of_ble_eq_true rfl)
  rw [lg_entry_eq]
  generalize (lg_sl ([.ref am]) ++ List.replicate (4 - (lg_sl ([.ref am])).length) Slot.unset).toArray = ls at hl ⊢
  have hl : lv_has ls 4 [(0, .ref am)] := hl
  have hL4 : ∀ (n4 : Nat) (v4_0 : Int64) (v4_1 : Int32) (H : Heap) (locs : List Loc) (ls : Array Slot), fX9_liveVolume_4 ms mvo n4 v4_0 v4_1 = some res → va_P D vwCl [(am, .inr (8, [.int th, .int mb, .ref mo, .int us, .int me, .int rc, .int (zb dn), .int lf, .int mw, .int mf, .ref m_p, .ref m_w, .ref m_l, .ref m_v, .int ms, .int mu, .long ml, .ref m_r, .int mz, .ref m_q])), (mo, .inl (y 4, 2, .inr (.inr (.inr (.inr (outr m1 m2)))))), (m1, .inl (y 0, nb, .inl c1)), (m2, .inl (y 0, nb, .inl c2)), (m_p, .inl (y 1, 121, .inl mpa)), (m_w, .inl (y 1, 121, .inl mwe)), (m_l, .inl (y 3, 121, .inl mli)), (m_v, .inl (y 2, 121, .inr (.inl mvo))), (m_r, .inl (y 0, 32, .inl mro)), (m_q, .inl (y 1, 260, .inl mpl))] H → va_D A [(am, .inr (8, [.int th, .int mb, .ref mo, .int us, .int me, .int rc, .int (zb dn), .int lf, .int mw, .int mf, .ref m_p, .ref m_w, .ref m_l, .ref m_v, .int ms, .int mu, .long ml, .ref m_r, .int mz, .ref m_q])), (mo, .inl (y 4, 2, .inr (.inr (.inr (.inr (outr m1 m2)))))), (m1, .inl (y 0, nb, .inl c1)), (m2, .inl (y 0, nb, .inl c2)), (m_p, .inl (y 1, 121, .inl mpa)), (m_w, .inl (y 1, 121, .inl mwe)), (m_l, .inl (y 3, 121, .inl mli)), (m_v, .inl (y 2, 121, .inr (.inl mvo))), (m_r, .inl (y 0, 32, .inl mro)), (m_q, .inl (y 1, 260, .inl mpl))] → va_S A s.heap H locs → lv_has ls 4 [(0, .ref am), (1, .long v4_0), (3, .int v4_1)] → W p l e (headSpec wsX9_liveVolume ({ frames := 0, cells := 0, slots := 0, locals := 0 } : Room)).room s m ([.ref am] : List Value).toArray below meth c H locs 0 0 (MQ below (Po D (fun _ : Unit => some (.long res)) (fun _ => [(am, .inr (8, [.int th, .int mb, .ref mo, .int us, .int me, .int rc, .int (zb dn), .int lf, .int mw, .int mf, .ref m_p, .ref m_w, .ref m_l, .ref m_v, .int ms, .int mu, .long ml, .ref m_r, .int mz, .ref m_q])), (mo, .inl (y 4, 2, .inr (.inr (.inr (.inr (outr m1 m2)))))), (m1, .inl (y 0, nb, .inl c1)), (m2, .inl (y 0, nb, .inl c2)), (m_p, .inl (y 1, 121, .inl mpa)), (m_w, .inl (y 1, 121, .inl mwe)), (m_l, .inl (y 3, 121, .inl mli)), (m_v, .inl (y 2, 121, .inr (.inl mvo))), (m_r, .inl (y 0, 32, .inl mro)), (m_q, .inl (y 1, 260, .inl mpl))]) A) ([.ref am] : List Value).toArray s 0 0 A) (F0 m 4 ls []) := by
    intro n4
    induction n4 with
    | zero =>
      intro v4_0 v4_1 H locs ls hf
      exact absurd (show (none : Option (Int64)) = some res from hf) (fun q => by cases q)
    | succ n4 ih4 =>
      intro v4_0 v4_1 H locs ls hf hP hD hS hl
      unfold fX9_liveVolume_4 at hf
      refine lv_iload_n hx hb dX9_liveVolume_4 rfl (lv_at hl 2 rfl) ?_
      refine lv_aload_n hx hb dX9_liveVolume_5 rfl (lv_at hl 0 rfl) ?_
      refine va_get (D := D) (ci := 8) (v := .int ms) (C := RX9) (T := TX9) (N := 20) hx hb hts iX9 hown hK hP 0 rfl rfl 14 (by decide) (hts (.fieldLink RX9 115 "SampleTrackerModel" "samples" "I") (by decide +kernel)) (fun _ h9 => h9) rfl dX9_liveVolume_6 ?_
      refine lv_icmp_gt (tgt := 27) hx hb dX9_liveVolume_9 (by decide) (fun c_1 => ?_) (fun c_1 => ?_)
      · have hf := ifp hf c_1
        refine lv_lload_n hx hb dX9_liveVolume_27 rfl (lv_at hl 1 rfl) ?_
        obtain rfl := Option.some.inj hf
        exact W.lret hx hb hr (fun t ht hW => ⟨⟨(), rfl, by rw [ht]; exact hP, hD⟩, hS.F ht⟩) hS.2.2 dX9_liveVolume_28
      · have hf := ifn hf c_1
        refine lv_lload_n hx hb dX9_liveVolume_12 rfl (lv_at hl 1 rfl) ?_
        refine lv_aload_n hx hb dX9_liveVolume_13 rfl (lv_at hl 0 rfl) ?_
        refine va_get (D := D) (ci := 8) (v := .ref m_v) (C := RX9) (T := TX9) (N := 20) hx hb hts iX9 hown hK hP 0 rfl rfl 13 (by decide) (hts (.fieldLink RX9 24 "SampleTrackerModel" "volume" "[J") (by decide +kernel)) (fun _ h9 => h9) rfl dX9_liveVolume_14 ?_
        refine lv_iload_n hx hb dX9_liveVolume_17 rfl (lv_at hl 2 rfl) ?_
        obtain ⟨h_2, hf⟩ := ibk hf
        refine va_lald hx hb hK hP 7 2 rfl rfl (ib_in h_2) dX9_liveVolume_18 ?_
        refine lv_ladd hx hb dX9_liveVolume_19 ?_
        refine lv_lstore_n (lv' := [(1, .long (v4_0 + (mvo v4_1.toNatClampNeg))), (0, .ref am), (3, .int v4_1)]) hx hb dX9_liveVolume_20 rfl hl (by decide) rfl (fun ls hl => ?_)
        refine lv_iinc (v := (v4_1 + (1 : Int32))) (lv' := [(3, .int (v4_1 + (1 : Int32))), (1, .long (v4_0 + (mvo v4_1.toNatClampNeg))), (0, .ref am)]) hx hb dX9_liveVolume_21 hl (k := 2) rfl rfl (by decide) rfl (fun ls hl => ?_)
        refine lv_goto (tgt := 4) hx hb dX9_liveVolume_24 (by decide) ?_
        exact ih4 (v4_0 + (mvo v4_1.toNatClampNeg)) (v4_1 + (1 : Int32)) _ _ _ hf hP hD hS (lv_sub hl [2, 1, 0] rfl)
  unfold fX9_liveVolume at hf
  refine lv_lconst (v := (0 : Int64)) hx hb dX9_liveVolume_0 (by decide) ?_
  refine lv_lstore_n (lv' := [(1, .long (0 : Int64)), (0, .ref am)]) hx hb dX9_liveVolume_1 rfl hl (by decide) rfl (fun ls hl => ?_)
  refine lv_iconst (v := (1 : Int32)) hx hb dX9_liveVolume_2 (by decide) ?_
  refine lv_istore_n (lv' := [(3, .int (1 : Int32)), (1, .long (0 : Int64)), (0, .ref am)]) hx hb dX9_liveVolume_3 rfl hl (by decide) rfl (fun ls hl => ?_)
  exact hL4 FU (0 : Int64) (1 : Int32) _ _ _ hf hP hD hS (lv_sub hl [2, 1, 0] rfl)

def fX9_hasRoom (mb : Int32) (me : Int32) (p1 : Int32) : Option (Bool) := ((fX9_lengthOf p1).bind fun r_1 => (if mb < (me + r_1) then some false else some true))

set_option maxHeartbeats 4000000 in
set_option maxRecDepth 100000 in
theorem cX9_hasRoom_ok (l : Launch) (D : va_G) (y : Nat → ClassId) (am : Nat) (mo : Nat) (m1 : Nat) (m2 : Nat) (m_p : Nat) (m_w : Nat) (m_l : Nat) (m_v : Nat) (m_r : Nat) (m_q : Nat) (nb : Nat) (th : Int32) (mb : Int32) (us : Int32) (me : Int32) (rc : Int32) (dn : Bool) (lf : Int32) (mw : Int32) (mf : Int32) (ms : Int32) (mu : Int32) (ml : Int64) (mz : Int32) (c1 : Nat → Int32) (c2 : Nat → Int32) (mpa : Nat → Int32) (mwe : Nat → Int32) (mli : Nat → Int32) (mvo : Nat → Int64) (mro : Nat → Int32) (mpl : Nat → Int32) (p1 : Int32) (res : Bool) (hf : fX9_hasRoom mb me p1 = some res) : CT l D y yX9_hasRoom wsX9_hasRoom ({ frames := 1, cells := 0, slots := 0, locals := 20 } : Room) [.ref am, .int p1] [(am, .inr (8, [.int th, .int mb, .ref mo, .int us, .int me, .int rc, .int (zb dn), .int lf, .int mw, .int mf, .ref m_p, .ref m_w, .ref m_l, .ref m_v, .int ms, .int mu, .long ml, .ref m_r, .int mz, .ref m_q])), (mo, .inl (y 4, 2, .inr (.inr (.inr (.inr (outr m1 m2)))))), (m1, .inl (y 0, nb, .inl c1)), (m2, .inl (y 0, nb, .inl c2)), (m_p, .inl (y 1, 121, .inl mpa)), (m_w, .inl (y 1, 121, .inl mwe)), (m_l, .inl (y 3, 121, .inl mli)), (m_v, .inl (y 2, 121, .inr (.inl mvo))), (m_r, .inl (y 0, 32, .inl mro)), (m_q, .inl (y 1, 260, .inl mpl))] (some (.int (zb res))) [(am, .inr (8, [.int th, .int mb, .ref mo, .int us, .int me, .int rc, .int (zb dn), .int lf, .int mw, .int mf, .ref m_p, .ref m_w, .ref m_l, .ref m_v, .int ms, .int mu, .long ml, .ref m_r, .int mz, .ref m_q])), (mo, .inl (y 4, 2, .inr (.inr (.inr (.inr (outr m1 m2)))))), (m1, .inl (y 0, nb, .inl c1)), (m2, .inl (y 0, nb, .inl c2)), (m_p, .inl (y 1, 121, .inl mpa)), (m_w, .inl (y 1, 121, .inl mwe)), (m_l, .inl (y 3, 121, .inl mli)), (m_v, .inl (y 2, 121, .inr (.inl mvo))), (m_r, .inl (y 0, 32, .inl mro)), (m_q, .inl (y 1, 260, .inl mpl))] := by
  intro sz
  refine Met.ofW (cc := cX9_hasRoom) (maxL := 2) (ret := (some .boolean)) (by decide) rfl ?_
  intro p e s m args below meth c s₁ B hml hv
  obtain ⟨rfl, hsz, hP, hK, hD0, hst, hno⟩ := hv
  have hx := B.exec
  have hb := B.bytes
  have hr := B.returns
  have hts := atoms_spec (ws := wsX9_hasRoom) B.pre
  have hown : s.vm.findClass RX9 = some m.cls := findClass_of_methodNamed B.named
  have hlocks := B.notSynchronized
  subst hsz
  have hD := hD0.self (sz := s.heap.size)
  generalize hAe : va_A [(am, .inr (8, [.int th, .int mb, .ref mo, .int us, .int me, .int rc, .int (zb dn), .int lf, .int mw, .int mf, .ref m_p, .ref m_w, .ref m_l, .ref m_v, .int ms, .int mu, .long ml, .ref m_r, .int mz, .ref m_q])), (mo, .inl (y 4, 2, .inr (.inr (.inr (.inr (outr m1 m2)))))), (m1, .inl (y 0, nb, .inl c1)), (m2, .inl (y 0, nb, .inl c2)), (m_p, .inl (y 1, 121, .inl mpa)), (m_w, .inl (y 1, 121, .inl mwe)), (m_l, .inl (y 3, 121, .inl mli)), (m_v, .inl (y 2, 121, .inr (.inl mvo))), (m_r, .inl (y 0, 32, .inl mro)), (m_q, .inl (y 1, 260, .inl mpl))] s.heap.size = A at hD hst ⊢
  have hA : ∀ q : Nat, s.heap.size ≤ q → A q := fun q h => by rw [← hAe]; exact Or.inr h
  have hS : va_S A s.heap s.heap [] := va_S.rf
  have E : Ev D y A s := ⟨hK, hst, hno, hA⟩
  have hfix : CallFix p m c cX9_hasRoom 2 s _ wsX9_hasRoom RX9 := ⟨hx, hb, hml, hown, hts⟩
  have hP : va_P D vwCl [(am, .inr (8, [.int th, .int mb, .ref mo, .int us, .int me, .int rc, .int (zb dn), .int lf, .int mw, .int mf, .ref m_p, .ref m_w, .ref m_l, .ref m_v, .int ms, .int mu, .long ml, .ref m_r, .int mz, .ref m_q])), (mo, .inl (y 4, 2, .inr (.inr (.inr (.inr (outr m1 m2)))))), (m1, .inl (y 0, nb, .inl c1)), (m2, .inl (y 0, nb, .inl c2)), (m_p, .inl (y 1, 121, .inl mpa)), (m_w, .inl (y 1, 121, .inl mwe)), (m_l, .inl (y 3, 121, .inl mli)), (m_v, .inl (y 2, 121, .inr (.inl mvo))), (m_r, .inl (y 0, 32, .inl mro)), (m_q, .inl (y 1, 260, .inl mpl))] s.heap := hP
  have iX9 : ∀ w ∈ wsX90, w ∈ wsX9_hasRoom := by decide +kernel
  have hl := lv_entry ([.ref am, .int p1]) (n := 2) (Nat.le_of_ble_eq_true rfl)
  rw [lg_entry_eq]
  generalize (lg_sl ([.ref am, .int p1]) ++ List.replicate (2 - (lg_sl ([.ref am, .int p1])).length) Slot.unset).toArray = ls at hl ⊢
  have hl : lv_has ls 2 [(0, .ref am), (1, .int p1)] := hl
  unfold fX9_hasRoom at hf
  refine lv_aload_n hx hb dX9_hasRoom_0 rfl (lv_at hl 0 rfl) ?_
  refine va_get (D := D) (ci := 8) (v := .int me) (C := RX9) (T := TX9) (N := 20) hx hb hts iX9 hown hK hP 0 rfl rfl 4 (by decide) (hts (.fieldLink RX9 103 "SampleTrackerModel" "end" "I") (by decide +kernel)) (fun _ h9 => h9) rfl dX9_hasRoom_1 ?_
  refine lv_iload_n hx hb dX9_hasRoom_4 rfl (lv_at hl 1 rfl) ?_
  obtain ⟨r_1, hc_2, hf⟩ := obd hf
  refine ct_S (As := [.int p1]) (rest := [.int me]) (wr := [(am, .inr (8, [.int th, .int mb, .ref mo, .int us, .int me, .int rc, .int (zb dn), .int lf, .int mw, .int mf, .ref m_p, .ref m_w, .ref m_l, .ref m_v, .int ms, .int mu, .long ml, .ref m_r, .int mz, .ref m_q])), (mo, .inl (y 4, 2, .inr (.inr (.inr (.inr (outr m1 m2)))))), (m1, .inl (y 0, nb, .inl c1)), (m2, .inl (y 0, nb, .inl c2)), (m_p, .inl (y 1, 121, .inl mpa)), (m_w, .inl (y 1, 121, .inl mwe)), (m_l, .inl (y 3, 121, .inl mli)), (m_v, .inl (y 2, 121, .inr (.inl mvo))), (m_r, .inl (y 0, 32, .inl mro)), (m_q, .inl (y 1, 260, .inl mpl))]) (wn := [(am, .inr (8, [.int th, .int mb, .ref mo, .int us, .int me, .int rc, .int (zb dn), .int lf, .int mw, .int mf, .ref m_p, .ref m_w, .ref m_l, .ref m_v, .int ms, .int mu, .long ml, .ref m_r, .int mz, .ref m_q])), (mo, .inl (y 4, 2, .inr (.inr (.inr (.inr (outr m1 m2)))))), (m1, .inl (y 0, nb, .inl c1)), (m2, .inl (y 0, nb, .inl c2)), (m_p, .inl (y 1, 121, .inl mpa)), (m_w, .inl (y 1, 121, .inl mwe)), (m_l, .inl (y 3, 121, .inl mli)), (m_v, .inl (y 2, 121, .inr (.inl mvo))), (m_r, .inl (y 0, 32, .inl mro)), (m_q, .inl (y 1, 260, .inl mpl))]) hfix (cX9_lengthOf_ok l D y p1 _ hc_2) (va_cwS 1 hts gX9_hasRoom_X9_lengthOf rfl rfl rfl (by decide +kernel) ⟨Nat.le_of_ble_eq_true rfl, Nat.le_of_ble_eq_true rfl⟩) E hP hD hS [] [0, 1, 2, 3, 4, 5, 6, 7, 8, 9] [0, 1, 2, 3, 4, 5, 6, 7, 8, 9] rfl rfl rfl rfl (by decide) rfl rfl rfl hl.1 rfl (Nat.le_of_ble_eq_true rfl) dX9_hasRoom_5 ⟨Nat.zero_le _, Nat.zero_le _⟩ (fun H locs hP hD hS => ?_)
  refine W.eq (g2 := F0 m 8 ls [.int r_1, .int me]) rfl ?_
  refine lv_iadd hx hb dX9_hasRoom_8 ?_
  refine lv_aload_n hx hb dX9_hasRoom_9 rfl (lv_at hl 0 rfl) ?_
  refine va_get (D := D) (ci := 8) (v := .int mb) (C := RX9) (T := TX9) (N := 20) hx hb hts iX9 hown hK hP 0 rfl rfl 1 (by decide) (hts (.fieldLink RX9 35 "SampleTrackerModel" "bytes" "I") (by decide +kernel)) (fun _ h9 => h9) rfl dX9_hasRoom_10 ?_
  refine lv_icmp_gt (tgt := 20) hx hb dX9_hasRoom_13 (by decide) (fun c_3 => ?_) (fun c_3 => ?_)
  · have hf := ifp hf c_3
    refine lv_iconst (v := (0 : Int32)) hx hb dX9_hasRoom_20 (by decide) ?_
    obtain rfl := Option.some.inj hf
    exact W.zret (ty := .boolean) hx hb hr rfl (fun t ht hW => ⟨⟨(), rfl, by rw [ht]; exact hP, hD⟩, hS.F ht⟩) hS.2.2 dX9_hasRoom_21
  · have hf := ifn hf c_3
    refine lv_iconst (v := (1 : Int32)) hx hb dX9_hasRoom_16 (by decide) ?_
    refine lv_goto (tgt := 21) hx hb dX9_hasRoom_17 (by decide) ?_
    obtain rfl := Option.some.inj hf
    exact W.zret (ty := .boolean) hx hb hr rfl (fun t ht hW => ⟨⟨(), rfl, by rw [ht]; exact hP, hD⟩, hS.F ht⟩) hS.2.2 dX9_hasRoom_21

def fX9_acts (nb : Nat) (mb : Int32) (us : Int32) (me : Int32) (rc : Int32) (dn : Bool) (lf : Int32) (mw : Int32) (mf : Int32) (ms : Int32) (mu : Int32) (ml : Int64) (mz : Int32) (c1 : Nat → Int32) (c2 : Nat → Int32) (mpa : Nat → Int32) (mwe : Nat → Int32) (mli : Nat → Int32) (mvo : Nat → Int64) (mro : Nat → Int32) (mpl : Nat → Int32) : Option (Bool × Int32 × Int32 × Bool × Int32 × Int32 × Int32 × Int32 × Int32 × Int64 × Int32 × (Nat → Int32) × (Nat → Int32) × (Nat → Int32) × (Nat → Int32) × (Nat → Int32) × (Nat → Int64) × (Nat → Int32) × (Nat → Int32)) := ((fX9_checked mz mro).bind fun (o_mz_1, o_mro_2) => ((fX9_writeRow nb dn lf mw mf o_mz_1 c1 c2 o_mro_2 us me).bind fun (r_4, o_dn_5, o_lf_6, o_mw_7, o_mf_8, o_c1_9, o_c2_10) => (if (zb r_4) = 0 then some (false, me, rc, o_dn_5, o_lf_6, o_mw_7, o_mf_8, ms, mu, ml, o_mz_1, o_c1_9, o_c2_10, mpa, mwe, mli, mvo, o_mro_2, mpl) else (if us = 0 then ((fX9_reads_1 nb mb us o_c1_9 o_c2_10 mpa mwe mli mvo mpl).bind fun (o_me_15, o_rc_16, o_ms_17, o_mu_18, o_ml_19, o_mpa_20, o_mwe_21, o_mli_22, o_mvo_23, o_mpl_24) => some (true, o_me_15, o_rc_16, o_dn_5, o_lf_6, o_mw_7, o_mf_8, o_ms_17, o_mu_18, o_ml_19, o_mz_1, o_c1_9, o_c2_10, o_mpa_20, o_mwe_21, o_mli_22, o_mvo_23, o_mro_2, o_mpl_24)) else if us = 1 then ((fX9_reads_2 nb mb us o_c1_9 o_c2_10 mpa mwe mli mvo mpl).bind fun (o_me_26, o_rc_27, o_ms_28, o_mu_29, o_ml_30, o_mpa_31, o_mwe_32, o_mli_33, o_mvo_34, o_mpl_35) => some (true, o_me_26, o_rc_27, o_dn_5, o_lf_6, o_mw_7, o_mf_8, o_ms_28, o_mu_29, o_ml_30, o_mz_1, o_c1_9, o_c2_10, o_mpa_31, o_mwe_32, o_mli_33, o_mvo_34, o_mro_2, o_mpl_35)) else none))))

set_option maxHeartbeats 4000000 in
set_option maxRecDepth 100000 in
theorem cX9_acts_ok (l : Launch) (D : va_G) (y : Nat → ClassId) (am : Nat) (mo : Nat) (m1 : Nat) (m2 : Nat) (m_p : Nat) (m_w : Nat) (m_l : Nat) (m_v : Nat) (m_r : Nat) (m_q : Nat) (nb : Nat) (th : Int32) (mb : Int32) (us : Int32) (me : Int32) (rc : Int32) (dn : Bool) (lf : Int32) (mw : Int32) (mf : Int32) (ms : Int32) (mu : Int32) (ml : Int64) (mz : Int32) (c1 : Nat → Int32) (c2 : Nat → Int32) (mpa : Nat → Int32) (mwe : Nat → Int32) (mli : Nat → Int32) (mvo : Nat → Int64) (mro : Nat → Int32) (mpl : Nat → Int32) (res : Bool × Int32 × Int32 × Bool × Int32 × Int32 × Int32 × Int32 × Int32 × Int64 × Int32 × (Nat → Int32) × (Nat → Int32) × (Nat → Int32) × (Nat → Int32) × (Nat → Int32) × (Nat → Int64) × (Nat → Int32) × (Nat → Int32)) (hf : fX9_acts nb mb us me rc dn lf mw mf ms mu ml mz c1 c2 mpa mwe mli mvo mro mpl = some res) : CT l D y yX9_acts wsX9_acts ({ frames := 4, cells := 0, slots := 0, locals := 83 } : Room) [.ref am] [(am, .inr (8, [.int th, .int mb, .ref mo, .int us, .int me, .int rc, .int (zb dn), .int lf, .int mw, .int mf, .ref m_p, .ref m_w, .ref m_l, .ref m_v, .int ms, .int mu, .long ml, .ref m_r, .int mz, .ref m_q])), (mo, .inl (y 4, 2, .inr (.inr (.inr (.inr (outr m1 m2)))))), (m1, .inl (y 0, nb, .inl c1)), (m2, .inl (y 0, nb, .inl c2)), (m_p, .inl (y 1, 121, .inl mpa)), (m_w, .inl (y 1, 121, .inl mwe)), (m_l, .inl (y 3, 121, .inl mli)), (m_v, .inl (y 2, 121, .inr (.inl mvo))), (m_r, .inl (y 0, 32, .inl mro)), (m_q, .inl (y 1, 260, .inl mpl))] (some (.int (zb res.1))) [(am, .inr (8, [.int th, .int mb, .ref mo, .int us, .int res.2.1, .int res.2.2.1, .int (zb res.2.2.2.1), .int res.2.2.2.2.1, .int res.2.2.2.2.2.1, .int res.2.2.2.2.2.2.1, .ref m_p, .ref m_w, .ref m_l, .ref m_v, .int res.2.2.2.2.2.2.2.1, .int res.2.2.2.2.2.2.2.2.1, .long res.2.2.2.2.2.2.2.2.2.1, .ref m_r, .int res.2.2.2.2.2.2.2.2.2.2.1, .ref m_q])), (mo, .inl (y 4, 2, .inr (.inr (.inr (.inr (outr m1 m2)))))), (m1, .inl (y 0, nb, .inl res.2.2.2.2.2.2.2.2.2.2.2.1)), (m2, .inl (y 0, nb, .inl res.2.2.2.2.2.2.2.2.2.2.2.2.1)), (m_p, .inl (y 1, 121, .inl res.2.2.2.2.2.2.2.2.2.2.2.2.2.1)), (m_w, .inl (y 1, 121, .inl res.2.2.2.2.2.2.2.2.2.2.2.2.2.2.1)), (m_l, .inl (y 3, 121, .inl res.2.2.2.2.2.2.2.2.2.2.2.2.2.2.2.1)), (m_v, .inl (y 2, 121, .inr (.inl res.2.2.2.2.2.2.2.2.2.2.2.2.2.2.2.2.1))), (m_r, .inl (y 0, 32, .inl res.2.2.2.2.2.2.2.2.2.2.2.2.2.2.2.2.2.1)), (m_q, .inl (y 1, 260, .inl res.2.2.2.2.2.2.2.2.2.2.2.2.2.2.2.2.2.2))] := by
  intro sz
  refine Met.ofW (cc := cX9_acts) (maxL := 1) (ret := (some .boolean)) (by decide) rfl ?_
  intro p e s m args below meth c s₁ B hml hv
  obtain ⟨rfl, hsz, hP, hK, hD0, hst, hno⟩ := hv
  have hx := B.exec
  have hb := B.bytes
  have hr := B.returns
  have hts := atoms_spec (ws := wsX9_acts) B.pre
  have hown : s.vm.findClass RX9 = some m.cls := findClass_of_methodNamed B.named
  have hlocks := B.notSynchronized
  subst hsz
  have hD := hD0.self (sz := s.heap.size)
  generalize hAe : va_A [(am, .inr (8, [.int th, .int mb, .ref mo, .int us, .int me, .int rc, .int (zb dn), .int lf, .int mw, .int mf, .ref m_p, .ref m_w, .ref m_l, .ref m_v, .int ms, .int mu, .long ml, .ref m_r, .int mz, .ref m_q])), (mo, .inl (y 4, 2, .inr (.inr (.inr (.inr (outr m1 m2)))))), (m1, .inl (y 0, nb, .inl c1)), (m2, .inl (y 0, nb, .inl c2)), (m_p, .inl (y 1, 121, .inl mpa)), (m_w, .inl (y 1, 121, .inl mwe)), (m_l, .inl (y 3, 121, .inl mli)), (m_v, .inl (y 2, 121, .inr (.inl mvo))), (m_r, .inl (y 0, 32, .inl mro)), (m_q, .inl (y 1, 260, .inl mpl))] s.heap.size = A at hD hst ⊢
  have hA : ∀ q : Nat, s.heap.size ≤ q → A q := fun q h => by rw [← hAe]; exact Or.inr h
  have hS : va_S A s.heap s.heap [] := va_S.rf
  have E : Ev D y A s := ⟨hK, hst, hno, hA⟩
  have hfix : CallFix p m c cX9_acts 1 s _ wsX9_acts RX9 := ⟨hx, hb, hml, hown, hts⟩
  have hP : va_P D vwCl [(am, .inr (8, [.int th, .int mb, .ref mo, .int us, .int me, .int rc, .int (zb dn), .int lf, .int mw, .int mf, .ref m_p, .ref m_w, .ref m_l, .ref m_v, .int ms, .int mu, .long ml, .ref m_r, .int mz, .ref m_q])), (mo, .inl (y 4, 2, .inr (.inr (.inr (.inr (outr m1 m2)))))), (m1, .inl (y 0, nb, .inl c1)), (m2, .inl (y 0, nb, .inl c2)), (m_p, .inl (y 1, 121, .inl mpa)), (m_w, .inl (y 1, 121, .inl mwe)), (m_l, .inl (y 3, 121, .inl mli)), (m_v, .inl (y 2, 121, .inr (.inl mvo))), (m_r, .inl (y 0, 32, .inl mro)), (m_q, .inl (y 1, 260, .inl mpl))] s.heap := hP
  have iX9 : ∀ w ∈ wsX90, w ∈ wsX9_acts := by decide +kernel
  have hl := lv_entry ([.ref am]) (n := 1) (Nat.le_of_ble_eq_true rfl)
  rw [lg_entry_eq]
  generalize (lg_sl ([.ref am]) ++ List.replicate (1 - (lg_sl ([.ref am])).length) Slot.unset).toArray = ls at hl ⊢
  have hl : lv_has ls 1 [(0, .ref am)] := hl
  unfold fX9_acts at hf
  refine lv_aload_n hx hb dX9_acts_0 rfl (lv_at hl 0 rfl) ?_
  obtain ⟨⟨o_mz_1, o_mro_2⟩, hc_3, hf⟩ := obd hf
  refine ct_V (As := []) (rest := []) (wr := []) (wn := [(am, .inr (8, [.int th, .int mb, .ref mo, .int us, .int me, .int rc, .int (zb dn), .int lf, .int mw, .int mf, .ref m_p, .ref m_w, .ref m_l, .ref m_v, .int ms, .int mu, .long ml, .ref m_r, .int o_mz_1, .ref m_q])), (mo, .inl (y 4, 2, .inr (.inr (.inr (.inr (outr m1 m2)))))), (m1, .inl (y 0, nb, .inl c1)), (m2, .inl (y 0, nb, .inl c2)), (m_p, .inl (y 1, 121, .inl mpa)), (m_w, .inl (y 1, 121, .inl mwe)), (m_l, .inl (y 3, 121, .inl mli)), (m_v, .inl (y 2, 121, .inr (.inl mvo))), (m_r, .inl (y 0, 32, .inl o_mro_2)), (m_q, .inl (y 1, 260, .inl mpl))]) hfix (cX9_checked_ok l D y am mo m1 m2 m_p m_w m_l m_v m_r m_q nb th mb us me rc dn lf mw mf ms mu ml mz c1 c2 mpa mwe mli mvo mro mpl _ hc_3) (cwV 0 hts gX9_acts_X9_checked rfl rfl rfl (by decide +kernel) ⟨Nat.le_of_ble_eq_true rfl, Nat.le_of_ble_eq_true rfl⟩) E hP hD hS [0, 1, 2, 3, 4, 5, 6, 7, 8, 9] [] [0, 1, 2, 3, 4, 5, 6, 7, 8, 9] rfl rfl rfl rfl (by decide) rfl rfl 0 8 rfl rfl rfl hl.1 rfl (Nat.le_of_ble_eq_true rfl) dX9_acts_1 ⟨Nat.zero_le _, Nat.zero_le _⟩ (fun H locs hP hD hS => ?_)
  refine W.eq (g2 := F0 m 4 ls []) rfl ?_
  refine lv_aload_n hx hb dX9_acts_4 rfl (lv_at hl 0 rfl) ?_
  refine lv_aload_n hx hb dX9_acts_5 rfl (lv_at hl 0 rfl) ?_
  refine va_get (D := D) (ci := 8) (v := .int us) (C := RX9) (T := TX9) (N := 20) hx hb hts iX9 hown hK hP 0 rfl rfl 3 (by decide) (hts (.fieldLink RX9 100 "SampleTrackerModel" "use" "I") (by decide +kernel)) (fun _ h9 => h9) rfl dX9_acts_6 ?_
  refine lv_aload_n hx hb dX9_acts_9 rfl (lv_at hl 0 rfl) ?_
  refine va_get (D := D) (ci := 8) (v := .int me) (C := RX9) (T := TX9) (N := 20) hx hb hts iX9 hown hK hP 0 rfl rfl 4 (by decide) (hts (.fieldLink RX9 103 "SampleTrackerModel" "end" "I") (by decide +kernel)) (fun _ h9 => h9) rfl dX9_acts_10 ?_
  obtain ⟨⟨r_4, o_dn_5, o_lf_6, o_mw_7, o_mf_8, o_c1_9, o_c2_10⟩, hc_11, hf⟩ := obd hf
  refine ct_V (As := [.int us, .int me]) (rest := []) (wr := []) (wn := [(am, .inr (8, [.int th, .int mb, .ref mo, .int us, .int me, .int rc, .int (zb o_dn_5), .int o_lf_6, .int o_mw_7, .int o_mf_8, .ref m_p, .ref m_w, .ref m_l, .ref m_v, .int ms, .int mu, .long ml, .ref m_r, .int o_mz_1, .ref m_q])), (mo, .inl (y 4, 2, .inr (.inr (.inr (.inr (outr m1 m2)))))), (m1, .inl (y 0, nb, .inl o_c1_9)), (m2, .inl (y 0, nb, .inl o_c2_10)), (m_p, .inl (y 1, 121, .inl mpa)), (m_w, .inl (y 1, 121, .inl mwe)), (m_l, .inl (y 3, 121, .inl mli)), (m_v, .inl (y 2, 121, .inr (.inl mvo))), (m_r, .inl (y 0, 32, .inl o_mro_2)), (m_q, .inl (y 1, 260, .inl mpl))]) hfix (cX9_writeRow_ok l D y am mo m1 m2 m_p m_w m_l m_v m_r m_q nb th mb us me rc dn lf mw mf ms mu ml o_mz_1 c1 c2 mpa mwe mli mvo o_mro_2 mpl us me _ hc_11) (cwV 2 hts gX9_acts_X9_writeRow rfl rfl rfl (by decide +kernel) ⟨Nat.le_of_ble_eq_true rfl, Nat.le_of_ble_eq_true rfl⟩) E hP hD hS [0, 1, 2, 3, 4, 5, 6, 7, 8, 9] [] [0, 1, 2, 3, 4, 5, 6, 7, 8, 9] rfl rfl rfl rfl (by decide) rfl rfl 0 8 rfl rfl rfl hl.1 rfl (Nat.le_of_ble_eq_true rfl) dX9_acts_13 ⟨Nat.zero_le _, Nat.zero_le _⟩ (fun H locs hP hD hS => ?_)
  refine W.eq (g2 := F0 m 16 ls [.int (zb r_4)]) rfl ?_
  refine lv_if_ne (tgt := 21) hx hb dX9_acts_16 (by decide) (fun c_12 => ?_) (fun c_12 => ?_)
  · have hf := ifn hf c_12
    refine lv_aload_n hx hb dX9_acts_21 rfl (lv_at hl 0 rfl) ?_
    by_cases c_13 : us = 0
    · have hf := ifp hf c_13
      obtain ⟨⟨o_me_15, o_rc_16, o_ms_17, o_mu_18, o_ml_19, o_mpa_20, o_mwe_21, o_mli_22, o_mvo_23, o_mpl_24⟩, hc_25, hf⟩ := obd hf
      refine ct_V (As := []) (rest := []) (wr := []) (wn := [(am, .inr (8, [.int th, .int mb, .ref mo, .int us, .int o_me_15, .int o_rc_16, .int (zb o_dn_5), .int o_lf_6, .int o_mw_7, .int o_mf_8, .ref m_p, .ref m_w, .ref m_l, .ref m_v, .int o_ms_17, .int o_mu_18, .long o_ml_19, .ref m_r, .int o_mz_1, .ref m_q])), (mo, .inl (y 4, 2, .inr (.inr (.inr (.inr (outr m1 m2)))))), (m1, .inl (y 0, nb, .inl o_c1_9)), (m2, .inl (y 0, nb, .inl o_c2_10)), (m_p, .inl (y 1, 121, .inl o_mpa_20)), (m_w, .inl (y 1, 121, .inl o_mwe_21)), (m_l, .inl (y 3, 121, .inl o_mli_22)), (m_v, .inl (y 2, 121, .inr (.inl o_mvo_23))), (m_r, .inl (y 0, 32, .inl o_mro_2)), (m_q, .inl (y 1, 260, .inl o_mpl_24))]) hfix (cX9_reads_1_ok l D y am mo m1 m2 m_p m_w m_l m_v m_r m_q nb th mb us me rc o_dn_5 o_lf_6 o_mw_7 o_mf_8 ms mu ml o_mz_1 o_c1_9 o_c2_10 mpa mwe mli mvo o_mro_2 mpl c_13 _ hc_25) (cwV 0 hts gX9_acts_X9_reads rfl rfl rfl (by decide +kernel) ⟨Nat.le_of_ble_eq_true rfl, Nat.le_of_ble_eq_true rfl⟩) E hP hD hS [0, 1, 2, 3, 4, 5, 6, 7, 8, 9] [] [0, 1, 2, 3, 4, 5, 6, 7, 8, 9] rfl rfl rfl rfl (by decide) rfl rfl 0 8 rfl rfl rfl hl.1 rfl (Nat.le_of_ble_eq_true rfl) dX9_acts_22 ⟨Nat.zero_le _, Nat.zero_le _⟩ (fun H locs hP hD hS => ?_)
      refine W.eq (g2 := F0 m 25 ls []) rfl ?_
      refine lv_iconst (v := (1 : Int32)) hx hb dX9_acts_25 (by decide) ?_
      obtain rfl := Option.some.inj hf
      exact W.zret (ty := .boolean) hx hb hr rfl (fun t ht hW => ⟨⟨(), rfl, by rw [ht]; exact hP, hD⟩, hS.F ht⟩) hS.2.2 dX9_acts_26
    · have hf := ifn hf c_13
      by_cases c_14 : us = 1
      · have hf := ifp hf c_14
        obtain ⟨⟨o_me_26, o_rc_27, o_ms_28, o_mu_29, o_ml_30, o_mpa_31, o_mwe_32, o_mli_33, o_mvo_34, o_mpl_35⟩, hc_36, hf⟩ := obd hf
        refine ct_V (As := []) (rest := []) (wr := []) (wn := [(am, .inr (8, [.int th, .int mb, .ref mo, .int us, .int o_me_26, .int o_rc_27, .int (zb o_dn_5), .int o_lf_6, .int o_mw_7, .int o_mf_8, .ref m_p, .ref m_w, .ref m_l, .ref m_v, .int o_ms_28, .int o_mu_29, .long o_ml_30, .ref m_r, .int o_mz_1, .ref m_q])), (mo, .inl (y 4, 2, .inr (.inr (.inr (.inr (outr m1 m2)))))), (m1, .inl (y 0, nb, .inl o_c1_9)), (m2, .inl (y 0, nb, .inl o_c2_10)), (m_p, .inl (y 1, 121, .inl o_mpa_31)), (m_w, .inl (y 1, 121, .inl o_mwe_32)), (m_l, .inl (y 3, 121, .inl o_mli_33)), (m_v, .inl (y 2, 121, .inr (.inl o_mvo_34))), (m_r, .inl (y 0, 32, .inl o_mro_2)), (m_q, .inl (y 1, 260, .inl o_mpl_35))]) hfix (cX9_reads_2_ok l D y am mo m1 m2 m_p m_w m_l m_v m_r m_q nb th mb us me rc o_dn_5 o_lf_6 o_mw_7 o_mf_8 ms mu ml o_mz_1 o_c1_9 o_c2_10 mpa mwe mli mvo o_mro_2 mpl c_13 c_14 _ hc_36) (cwV 0 hts gX9_acts_X9_reads rfl rfl rfl (by decide +kernel) ⟨Nat.le_of_ble_eq_true rfl, Nat.le_of_ble_eq_true rfl⟩) E hP hD hS [0, 1, 2, 3, 4, 5, 6, 7, 8, 9] [] [0, 1, 2, 3, 4, 5, 6, 7, 8, 9] rfl rfl rfl rfl (by decide) rfl rfl 0 8 rfl rfl rfl hl.1 rfl (Nat.le_of_ble_eq_true rfl) dX9_acts_22 ⟨Nat.zero_le _, Nat.zero_le _⟩ (fun H locs hP hD hS => ?_)
        refine W.eq (g2 := F0 m 25 ls []) rfl ?_
        refine lv_iconst (v := (1 : Int32)) hx hb dX9_acts_25 (by decide) ?_
        obtain rfl := Option.some.inj hf
        exact W.zret (ty := .boolean) hx hb hr rfl (fun t ht hW => ⟨⟨(), rfl, by rw [ht]; exact hP, hD⟩, hS.F ht⟩) hS.2.2 dX9_acts_26
      · have hf := ifn hf c_14
        exact absurd hf (fun q => by cases q)
  · have hf := ifp hf c_12
    refine lv_iconst (v := (0 : Int32)) hx hb dX9_acts_19 (by decide) ?_
    obtain rfl := Option.some.inj hf
    exact W.zret (ty := .boolean) hx hb hr rfl (fun t ht hW => ⟨⟨(), rfl, by rw [ht]; exact hP, hD⟩, hS.F ht⟩) hS.2.2 dX9_acts_20

def fX9_register (nb : Nat) (mb : Int32) (us : Int32) (me : Int32) (rc : Int32) (dn : Bool) (lf : Int32) (mw : Int32) (mf : Int32) (ms : Int32) (mu : Int32) (ml : Int64) (mz : Int32) (c1 : Nat → Int32) (c2 : Nat → Int32) (mpa : Nat → Int32) (mwe : Nat → Int32) (mli : Nat → Int32) (mvo : Nat → Int64) (mro : Nat → Int32) (mpl : Nat → Int32) (p1 : Int32) (p2 : Int64) : Option (Int32 × Int32 × Int32 × Bool × Int32 × Int32 × Int32 × Int32 × Int32 × Int64 × Int32 × (Nat → Int32) × (Nat → Int32) × (Nat → Int32) × (Nat → Int32) × (Nat → Int32) × (Nat → Int64) × (Nat → Int32) × (Nat → Int32)) := (if (zb dn) = 0 then ((fX9_isWell p1).bind fun r_2 => (if (zb r_2) = 0 then some ((-2 : Int32), me, rc, dn, lf, mw, mf, ms, mu, ml, mz, c1, c2, mpa, mwe, mli, mvo, mro, mpl) else ((fX9_liveIn ms mwe mli p1).bind fun r_5 => (if r_5 = (-1 : Int32) then (if (lg_cmp p2 (1 : Int64)) < 0 then some ((-4 : Int32), me, rc, dn, lf, mw, mf, ms, mu, ml, mz, c1, c2, mpa, mwe, mli, mvo, mro, mpl) else ((fX9_liveVolume ms mvo).bind fun r_9 => (if (lg_cmp (r_9 + ml) ((9223372036854775807 : Int64) - p2)) ≤ 0 then (if ms = (120 : Int32) then some ((-5 : Int32), me, rc, dn, lf, mw, mf, ms, mu, ml, mz, c1, c2, mpa, mwe, mli, mvo, mro, mpl) else ((fX9_hasRoom mb me (1 : Int32)).bind fun r_13 => (if (zb r_13) = 0 then some ((-6 : Int32), me, rc, dn, lf, mw, mf, ms, mu, ml, mz, c1, c2, mpa, mwe, mli, mvo, mro, mpl) else ((fX9_begin mro (1 : Int32)).bind fun (o_mz_16, o_mro_17) => ((fX9_u1 o_mz_16 o_mro_17 p1).bind fun (o_mz_19, o_mro_20) => ((fX9_u8 o_mz_19 o_mro_20 p2).bind fun (o_mz_22, o_mro_23) => ((fX9_acts nb mb us me rc dn lf mw mf ms mu ml o_mz_22 c1 c2 mpa mwe mli mvo o_mro_23 mpl).bind fun (r_25, o_me_26, o_rc_27, o_dn_28, o_lf_29, o_mw_30, o_mf_31, o_ms_32, o_mu_33, o_ml_34, o_mz_35, o_c1_36, o_c2_37, o_mpa_38, o_mwe_39, o_mli_40, o_mvo_41, o_mro_42, o_mpl_43) => (if (zb r_25) = 0 then some ((-1 : Int32), o_me_26, o_rc_27, o_dn_28, o_lf_29, o_mw_30, o_mf_31, o_ms_32, o_mu_33, o_ml_34, o_mz_35, o_c1_36, o_c2_37, o_mpa_38, o_mwe_39, o_mli_40, o_mvo_41, o_mro_42, o_mpl_43) else some (o_ms_32, o_me_26, o_rc_27, o_dn_28, o_lf_29, o_mw_30, o_mf_31, o_ms_32, o_mu_33, o_ml_34, o_mz_35, o_c1_36, o_c2_37, o_mpa_38, o_mwe_39, o_mli_40, o_mvo_41, o_mro_42, o_mpl_43))))))))) else some ((-4 : Int32), me, rc, dn, lf, mw, mf, ms, mu, ml, mz, c1, c2, mpa, mwe, mli, mvo, mro, mpl)))) else some ((-3 : Int32), me, rc, dn, lf, mw, mf, ms, mu, ml, mz, c1, c2, mpa, mwe, mli, mvo, mro, mpl))))) else some ((-1 : Int32), me, rc, dn, lf, mw, mf, ms, mu, ml, mz, c1, c2, mpa, mwe, mli, mvo, mro, mpl))

set_option maxHeartbeats 4000000 in
set_option maxRecDepth 100000 in
theorem cX9_register_ok (l : Launch) (D : va_G) (y : Nat → ClassId) (am : Nat) (mo : Nat) (m1 : Nat) (m2 : Nat) (m_p : Nat) (m_w : Nat) (m_l : Nat) (m_v : Nat) (m_r : Nat) (m_q : Nat) (nb : Nat) (th : Int32) (mb : Int32) (us : Int32) (me : Int32) (rc : Int32) (dn : Bool) (lf : Int32) (mw : Int32) (mf : Int32) (ms : Int32) (mu : Int32) (ml : Int64) (mz : Int32) (c1 : Nat → Int32) (c2 : Nat → Int32) (mpa : Nat → Int32) (mwe : Nat → Int32) (mli : Nat → Int32) (mvo : Nat → Int64) (mro : Nat → Int32) (mpl : Nat → Int32) (p1 : Int32) (p2 : Int64) (res : Int32 × Int32 × Int32 × Bool × Int32 × Int32 × Int32 × Int32 × Int32 × Int64 × Int32 × (Nat → Int32) × (Nat → Int32) × (Nat → Int32) × (Nat → Int32) × (Nat → Int32) × (Nat → Int64) × (Nat → Int32) × (Nat → Int32)) (hf : fX9_register nb mb us me rc dn lf mw mf ms mu ml mz c1 c2 mpa mwe mli mvo mro mpl p1 p2 = some res) : CT l D y yX9_register wsX9_register ({ frames := 5, cells := 0, slots := 0, locals := 103 } : Room) [.ref am, .int p1, .long p2] [(am, .inr (8, [.int th, .int mb, .ref mo, .int us, .int me, .int rc, .int (zb dn), .int lf, .int mw, .int mf, .ref m_p, .ref m_w, .ref m_l, .ref m_v, .int ms, .int mu, .long ml, .ref m_r, .int mz, .ref m_q])), (mo, .inl (y 4, 2, .inr (.inr (.inr (.inr (outr m1 m2)))))), (m1, .inl (y 0, nb, .inl c1)), (m2, .inl (y 0, nb, .inl c2)), (m_p, .inl (y 1, 121, .inl mpa)), (m_w, .inl (y 1, 121, .inl mwe)), (m_l, .inl (y 3, 121, .inl mli)), (m_v, .inl (y 2, 121, .inr (.inl mvo))), (m_r, .inl (y 0, 32, .inl mro)), (m_q, .inl (y 1, 260, .inl mpl))] (some (.int res.1)) [(am, .inr (8, [.int th, .int mb, .ref mo, .int us, .int res.2.1, .int res.2.2.1, .int (zb res.2.2.2.1), .int res.2.2.2.2.1, .int res.2.2.2.2.2.1, .int res.2.2.2.2.2.2.1, .ref m_p, .ref m_w, .ref m_l, .ref m_v, .int res.2.2.2.2.2.2.2.1, .int res.2.2.2.2.2.2.2.2.1, .long res.2.2.2.2.2.2.2.2.2.1, .ref m_r, .int res.2.2.2.2.2.2.2.2.2.2.1, .ref m_q])), (mo, .inl (y 4, 2, .inr (.inr (.inr (.inr (outr m1 m2)))))), (m1, .inl (y 0, nb, .inl res.2.2.2.2.2.2.2.2.2.2.2.1)), (m2, .inl (y 0, nb, .inl res.2.2.2.2.2.2.2.2.2.2.2.2.1)), (m_p, .inl (y 1, 121, .inl res.2.2.2.2.2.2.2.2.2.2.2.2.2.1)), (m_w, .inl (y 1, 121, .inl res.2.2.2.2.2.2.2.2.2.2.2.2.2.2.1)), (m_l, .inl (y 3, 121, .inl res.2.2.2.2.2.2.2.2.2.2.2.2.2.2.2.1)), (m_v, .inl (y 2, 121, .inr (.inl res.2.2.2.2.2.2.2.2.2.2.2.2.2.2.2.2.1))), (m_r, .inl (y 0, 32, .inl res.2.2.2.2.2.2.2.2.2.2.2.2.2.2.2.2.2.1)), (m_q, .inl (y 1, 260, .inl res.2.2.2.2.2.2.2.2.2.2.2.2.2.2.2.2.2.2))] := by
  intro sz
  refine Met.ofW (cc := cX9_register) (maxL := 4) (ret := (some .int)) (by decide) rfl ?_
  intro p e s m args below meth c s₁ B hml hv
  obtain ⟨rfl, hsz, hP, hK, hD0, hst, hno⟩ := hv
  have hx := B.exec
  have hb := B.bytes
  have hr := B.returns
  have hts := atoms_spec (ws := wsX9_register) B.pre
  have hown : s.vm.findClass RX9 = some m.cls := findClass_of_methodNamed B.named
  have hlocks := B.notSynchronized
  subst hsz
  have hD := hD0.self (sz := s.heap.size)
  generalize hAe : va_A [(am, .inr (8, [.int th, .int mb, .ref mo, .int us, .int me, .int rc, .int (zb dn), .int lf, .int mw, .int mf, .ref m_p, .ref m_w, .ref m_l, .ref m_v, .int ms, .int mu, .long ml, .ref m_r, .int mz, .ref m_q])), (mo, .inl (y 4, 2, .inr (.inr (.inr (.inr (outr m1 m2)))))), (m1, .inl (y 0, nb, .inl c1)), (m2, .inl (y 0, nb, .inl c2)), (m_p, .inl (y 1, 121, .inl mpa)), (m_w, .inl (y 1, 121, .inl mwe)), (m_l, .inl (y 3, 121, .inl mli)), (m_v, .inl (y 2, 121, .inr (.inl mvo))), (m_r, .inl (y 0, 32, .inl mro)), (m_q, .inl (y 1, 260, .inl mpl))] s.heap.size = A at hD hst ⊢
  have hA : ∀ q : Nat, s.heap.size ≤ q → A q := fun q h => by rw [← hAe]; exact Or.inr h
  have hS : va_S A s.heap s.heap [] := va_S.rf
  have E : Ev D y A s := ⟨hK, hst, hno, hA⟩
  have hfix : CallFix p m c cX9_register 4 s _ wsX9_register RX9 := ⟨hx, hb, hml, hown, hts⟩
  have hP : va_P D vwCl [(am, .inr (8, [.int th, .int mb, .ref mo, .int us, .int me, .int rc, .int (zb dn), .int lf, .int mw, .int mf, .ref m_p, .ref m_w, .ref m_l, .ref m_v, .int ms, .int mu, .long ml, .ref m_r, .int mz, .ref m_q])), (mo, .inl (y 4, 2, .inr (.inr (.inr (.inr (outr m1 m2)))))), (m1, .inl (y 0, nb, .inl c1)), (m2, .inl (y 0, nb, .inl c2)), (m_p, .inl (y 1, 121, .inl mpa)), (m_w, .inl (y 1, 121, .inl mwe)), (m_l, .inl (y 3, 121, .inl mli)), (m_v, .inl (y 2, 121, .inr (.inl mvo))), (m_r, .inl (y 0, 32, .inl mro)), (m_q, .inl (y 1, 260, .inl mpl))] s.heap := hP
  have iX9 : ∀ w ∈ wsX90, w ∈ wsX9_register := by decide +kernel
  have hl := lv_entry ([.ref am, .int p1, .long p2]) (n := 4) (Nat.le_of_ble_eq_true rfl)
  rw [lg_entry_eq]
  generalize (lg_sl ([.ref am, .int p1, .long p2]) ++ List.replicate (4 - (lg_sl ([.ref am, .int p1, .long p2])).length) Slot.unset).toArray = ls at hl ⊢
  have hl : lv_has ls 4 [(0, .ref am), (1, .int p1), (2, .long p2)] := hl
  unfold fX9_register at hf
  refine lv_aload_n hx hb dX9_register_0 rfl (lv_at hl 0 rfl) ?_
  refine va_get (D := D) (ci := 8) (v := .int (zb dn)) (C := RX9) (T := TX9) (N := 20) hx hb hts iX9 hown hK hP 0 rfl rfl 6 (by decide) (hts (.fieldLink RX9 77 "SampleTrackerModel" "isDown" "Z") (by decide +kernel)) (fun _ h9 => h9) rfl dX9_register_1 ?_
  refine lv_if_eq (tgt := 9) hx hb dX9_register_4 (by decide) (fun c_1 => ?_) (fun c_1 => ?_)
  · have hf := ifp hf c_1
    refine lv_iload_n hx hb dX9_register_9 rfl (lv_at hl 1 rfl) ?_
    obtain ⟨r_2, hc_3, hf⟩ := obd hf
    refine ct_S (As := [.int p1]) (rest := []) (wr := [(am, .inr (8, [.int th, .int mb, .ref mo, .int us, .int me, .int rc, .int (zb dn), .int lf, .int mw, .int mf, .ref m_p, .ref m_w, .ref m_l, .ref m_v, .int ms, .int mu, .long ml, .ref m_r, .int mz, .ref m_q])), (mo, .inl (y 4, 2, .inr (.inr (.inr (.inr (outr m1 m2)))))), (m1, .inl (y 0, nb, .inl c1)), (m2, .inl (y 0, nb, .inl c2)), (m_p, .inl (y 1, 121, .inl mpa)), (m_w, .inl (y 1, 121, .inl mwe)), (m_l, .inl (y 3, 121, .inl mli)), (m_v, .inl (y 2, 121, .inr (.inl mvo))), (m_r, .inl (y 0, 32, .inl mro)), (m_q, .inl (y 1, 260, .inl mpl))]) (wn := [(am, .inr (8, [.int th, .int mb, .ref mo, .int us, .int me, .int rc, .int (zb dn), .int lf, .int mw, .int mf, .ref m_p, .ref m_w, .ref m_l, .ref m_v, .int ms, .int mu, .long ml, .ref m_r, .int mz, .ref m_q])), (mo, .inl (y 4, 2, .inr (.inr (.inr (.inr (outr m1 m2)))))), (m1, .inl (y 0, nb, .inl c1)), (m2, .inl (y 0, nb, .inl c2)), (m_p, .inl (y 1, 121, .inl mpa)), (m_w, .inl (y 1, 121, .inl mwe)), (m_l, .inl (y 3, 121, .inl mli)), (m_v, .inl (y 2, 121, .inr (.inl mvo))), (m_r, .inl (y 0, 32, .inl mro)), (m_q, .inl (y 1, 260, .inl mpl))]) hfix (cX9_isWell_ok l D y p1 _ hc_3) (va_cwS 1 hts gX9_register_X9_isWell rfl rfl rfl (by decide +kernel) ⟨Nat.le_of_ble_eq_true rfl, Nat.le_of_ble_eq_true rfl⟩) E hP hD hS [] [0, 1, 2, 3, 4, 5, 6, 7, 8, 9] [0, 1, 2, 3, 4, 5, 6, 7, 8, 9] rfl rfl rfl rfl (by decide) rfl rfl rfl hl.1 rfl (Nat.le_of_ble_eq_true rfl) dX9_register_10 ⟨Nat.zero_le _, Nat.zero_le _⟩ (fun H locs hP hD hS => ?_)
    refine W.eq (g2 := F0 m 13 ls [.int (zb r_2)]) rfl ?_
    refine lv_if_ne (tgt := 19) hx hb dX9_register_13 (by decide) (fun c_4 => ?_) (fun c_4 => ?_)
    · have hf := ifn hf c_4
      refine lv_aload_n hx hb dX9_register_19 rfl (lv_at hl 0 rfl) ?_
      refine lv_iload_n hx hb dX9_register_20 rfl (lv_at hl 1 rfl) ?_
      obtain ⟨r_5, hc_6, hf⟩ := obd hf
      refine ct_V (As := [.int p1]) (rest := []) (wr := []) (wn := [(am, .inr (8, [.int th, .int mb, .ref mo, .int us, .int me, .int rc, .int (zb dn), .int lf, .int mw, .int mf, .ref m_p, .ref m_w, .ref m_l, .ref m_v, .int ms, .int mu, .long ml, .ref m_r, .int mz, .ref m_q])), (mo, .inl (y 4, 2, .inr (.inr (.inr (.inr (outr m1 m2)))))), (m1, .inl (y 0, nb, .inl c1)), (m2, .inl (y 0, nb, .inl c2)), (m_p, .inl (y 1, 121, .inl mpa)), (m_w, .inl (y 1, 121, .inl mwe)), (m_l, .inl (y 3, 121, .inl mli)), (m_v, .inl (y 2, 121, .inr (.inl mvo))), (m_r, .inl (y 0, 32, .inl mro)), (m_q, .inl (y 1, 260, .inl mpl))]) hfix (cX9_liveIn_ok l D y am mo m1 m2 m_p m_w m_l m_v m_r m_q nb th mb us me rc dn lf mw mf ms mu ml mz c1 c2 mpa mwe mli mvo mro mpl p1 _ hc_6) (cwV 1 hts gX9_register_X9_liveIn rfl rfl rfl (by decide +kernel) ⟨Nat.le_of_ble_eq_true rfl, Nat.le_of_ble_eq_true rfl⟩) E hP hD hS [0, 1, 2, 3, 4, 5, 6, 7, 8, 9] [] [0, 1, 2, 3, 4, 5, 6, 7, 8, 9] rfl rfl rfl rfl (by decide) rfl rfl 0 8 rfl rfl rfl hl.1 rfl (Nat.le_of_ble_eq_true rfl) dX9_register_21 ⟨Nat.zero_le _, Nat.zero_le _⟩ (fun H locs hP hD hS => ?_)
      refine W.eq (g2 := F0 m 24 ls [.int r_5]) rfl ?_
      refine lv_iconst (v := (-1 : Int32)) hx hb dX9_register_24 (by decide) ?_
      refine lv_icmp_eq (tgt := 31) hx hb dX9_register_25 (by decide) (fun c_7 => ?_) (fun c_7 => ?_)
      · have hf := ifp hf c_7
        refine lv_lload_n hx hb dX9_register_31 rfl (lv_at hl 2 rfl) ?_
        refine lv_lconst (v := (1 : Int64)) hx hb dX9_register_32 (by decide) ?_
        refine W.lcmp hx hb dX9_register_33 ?_
        refine lv_if_lt (tgt := 55) hx hb dX9_register_34 (by decide) (fun c_8 => ?_) (fun c_8 => ?_)
        · have hf := ifp hf c_8
          refine lv_bipush (v := (-4 : Int32)) hx hb dX9_register_55 (by decide) ?_
          obtain rfl := Option.some.inj hf
          exact W.iret hx hb hr (fun t ht hW => ⟨⟨(), rfl, by rw [ht]; exact hP, hD⟩, hS.F ht⟩) hS.2.2 dX9_register_57
        · have hf := ifn hf c_8
          refine lv_aload_n hx hb dX9_register_37 rfl (lv_at hl 0 rfl) ?_
          obtain ⟨r_9, hc_10, hf⟩ := obd hf
          refine ct_V (As := []) (rest := []) (wr := []) (wn := [(am, .inr (8, [.int th, .int mb, .ref mo, .int us, .int me, .int rc, .int (zb dn), .int lf, .int mw, .int mf, .ref m_p, .ref m_w, .ref m_l, .ref m_v, .int ms, .int mu, .long ml, .ref m_r, .int mz, .ref m_q])), (mo, .inl (y 4, 2, .inr (.inr (.inr (.inr (outr m1 m2)))))), (m1, .inl (y 0, nb, .inl c1)), (m2, .inl (y 0, nb, .inl c2)), (m_p, .inl (y 1, 121, .inl mpa)), (m_w, .inl (y 1, 121, .inl mwe)), (m_l, .inl (y 3, 121, .inl mli)), (m_v, .inl (y 2, 121, .inr (.inl mvo))), (m_r, .inl (y 0, 32, .inl mro)), (m_q, .inl (y 1, 260, .inl mpl))]) hfix (cX9_liveVolume_ok l D y am mo m1 m2 m_p m_w m_l m_v m_r m_q nb th mb us me rc dn lf mw mf ms mu ml mz c1 c2 mpa mwe mli mvo mro mpl _ hc_10) (cwV 0 hts gX9_register_X9_liveVolume rfl rfl rfl (by decide +kernel) ⟨Nat.le_of_ble_eq_true rfl, Nat.le_of_ble_eq_true rfl⟩) E hP hD hS [0, 1, 2, 3, 4, 5, 6, 7, 8, 9] [] [0, 1, 2, 3, 4, 5, 6, 7, 8, 9] rfl rfl rfl rfl (by decide) rfl rfl 0 8 rfl rfl rfl hl.1 rfl (Nat.le_of_ble_eq_true rfl) dX9_register_38 ⟨Nat.zero_le _, Nat.zero_le _⟩ (fun H locs hP hD hS => ?_)
          refine W.eq (g2 := F0 m 41 ls [.long r_9]) rfl ?_
          refine lv_aload_n hx hb dX9_register_41 rfl (lv_at hl 0 rfl) ?_
          refine va_get (D := D) (ci := 8) (v := .long ml) (C := RX9) (T := TX9) (N := 20) hx hb hts iX9 hown hK hP 0 rfl rfl 16 (by decide) (hts (.fieldLink RX9 118 "SampleTrackerModel" "lost" "J") (by decide +kernel)) (fun _ h9 => h9) rfl dX9_register_42 ?_
          refine lv_ladd hx hb dX9_register_45 ?_
          refine lv_ldc2 (v := (9223372036854775807 : Int64)) hx hb hown (hts (.constantLong RX9 149 (9223372036854775807 : Int64)) (by decide +kernel)) dX9_register_46 ?_
          refine lv_lload_n hx hb dX9_register_49 rfl (lv_at hl 2 rfl) ?_
          refine lv_lsub hx hb dX9_register_50 ?_
          refine W.lcmp hx hb dX9_register_51 ?_
          refine lv_if_le (tgt := 58) hx hb dX9_register_52 (by decide) (fun c_11 => ?_) (fun c_11 => ?_)
          · have hf := ifp hf c_11
            refine lv_aload_n hx hb dX9_register_58 rfl (lv_at hl 0 rfl) ?_
            refine va_get (D := D) (ci := 8) (v := .int ms) (C := RX9) (T := TX9) (N := 20) hx hb hts iX9 hown hK hP 0 rfl rfl 14 (by decide) (hts (.fieldLink RX9 115 "SampleTrackerModel" "samples" "I") (by decide +kernel)) (fun _ h9 => h9) rfl dX9_register_59 ?_
            refine lv_bipush (v := (120 : Int32)) hx hb dX9_register_62 (by decide) ?_
            refine lv_icmp_ne (tgt := 70) hx hb dX9_register_64 (by decide) (fun c_12 => ?_) (fun c_12 => ?_)
            · have hf := ifn hf c_12
              refine lv_aload_n hx hb dX9_register_70 rfl (lv_at hl 0 rfl) ?_
              refine lv_iconst (v := (1 : Int32)) hx hb dX9_register_71 (by decide) ?_
              obtain ⟨r_13, hc_14, hf⟩ := obd hf
              refine ct_V (As := [.int (1 : Int32)]) (rest := []) (wr := []) (wn := [(am, .inr (8, [.int th, .int mb, .ref mo, .int us, .int me, .int rc, .int (zb dn), .int lf, .int mw, .int mf, .ref m_p, .ref m_w, .ref m_l, .ref m_v, .int ms, .int mu, .long ml, .ref m_r, .int mz, .ref m_q])), (mo, .inl (y 4, 2, .inr (.inr (.inr (.inr (outr m1 m2)))))), (m1, .inl (y 0, nb, .inl c1)), (m2, .inl (y 0, nb, .inl c2)), (m_p, .inl (y 1, 121, .inl mpa)), (m_w, .inl (y 1, 121, .inl mwe)), (m_l, .inl (y 3, 121, .inl mli)), (m_v, .inl (y 2, 121, .inr (.inl mvo))), (m_r, .inl (y 0, 32, .inl mro)), (m_q, .inl (y 1, 260, .inl mpl))]) hfix (cX9_hasRoom_ok l D y am mo m1 m2 m_p m_w m_l m_v m_r m_q nb th mb us me rc dn lf mw mf ms mu ml mz c1 c2 mpa mwe mli mvo mro mpl (1 : Int32) _ hc_14) (cwV 1 hts gX9_register_X9_hasRoom rfl rfl rfl (by decide +kernel) ⟨Nat.le_of_ble_eq_true rfl, Nat.le_of_ble_eq_true rfl⟩) E hP hD hS [0, 1, 2, 3, 4, 5, 6, 7, 8, 9] [] [0, 1, 2, 3, 4, 5, 6, 7, 8, 9] rfl rfl rfl rfl (by decide) rfl rfl 0 8 rfl rfl rfl hl.1 rfl (Nat.le_of_ble_eq_true rfl) dX9_register_72 ⟨Nat.zero_le _, Nat.zero_le _⟩ (fun H locs hP hD hS => ?_)
              refine W.eq (g2 := F0 m 75 ls [.int (zb r_13)]) rfl ?_
              refine lv_if_ne (tgt := 81) hx hb dX9_register_75 (by decide) (fun c_15 => ?_) (fun c_15 => ?_)
              · have hf := ifn hf c_15
                refine lv_aload_n hx hb dX9_register_81 rfl (lv_at hl 0 rfl) ?_
                refine lv_iconst (v := (1 : Int32)) hx hb dX9_register_82 (by decide) ?_
                obtain ⟨⟨o_mz_16, o_mro_17⟩, hc_18, hf⟩ := obd hf
                refine ct_V (As := [.int (1 : Int32)]) (rest := []) (wr := []) (wn := [(am, .inr (8, [.int th, .int mb, .ref mo, .int us, .int me, .int rc, .int (zb dn), .int lf, .int mw, .int mf, .ref m_p, .ref m_w, .ref m_l, .ref m_v, .int ms, .int mu, .long ml, .ref m_r, .int o_mz_16, .ref m_q])), (mo, .inl (y 4, 2, .inr (.inr (.inr (.inr (outr m1 m2)))))), (m1, .inl (y 0, nb, .inl c1)), (m2, .inl (y 0, nb, .inl c2)), (m_p, .inl (y 1, 121, .inl mpa)), (m_w, .inl (y 1, 121, .inl mwe)), (m_l, .inl (y 3, 121, .inl mli)), (m_v, .inl (y 2, 121, .inr (.inl mvo))), (m_r, .inl (y 0, 32, .inl o_mro_17)), (m_q, .inl (y 1, 260, .inl mpl))]) hfix (cX9_begin_ok l D y am mo m1 m2 m_p m_w m_l m_v m_r m_q nb th mb us me rc dn lf mw mf ms mu ml mz c1 c2 mpa mwe mli mvo mro mpl (1 : Int32) _ hc_18) (cwV 1 hts gX9_register_X9_begin rfl rfl rfl (by decide +kernel) ⟨Nat.le_of_ble_eq_true rfl, Nat.le_of_ble_eq_true rfl⟩) E hP hD hS [0, 1, 2, 3, 4, 5, 6, 7, 8, 9] [] [0, 1, 2, 3, 4, 5, 6, 7, 8, 9] rfl rfl rfl rfl (by decide) rfl rfl 0 8 rfl rfl rfl hl.1 rfl (Nat.le_of_ble_eq_true rfl) dX9_register_83 ⟨Nat.zero_le _, Nat.zero_le _⟩ (fun H locs hP hD hS => ?_)
                refine W.eq (g2 := F0 m 86 ls []) rfl ?_
                refine lv_aload_n hx hb dX9_register_86 rfl (lv_at hl 0 rfl) ?_
                refine lv_iload_n hx hb dX9_register_87 rfl (lv_at hl 1 rfl) ?_
                obtain ⟨⟨o_mz_19, o_mro_20⟩, hc_21, hf⟩ := obd hf
                refine ct_V (As := [.int p1]) (rest := []) (wr := []) (wn := [(am, .inr (8, [.int th, .int mb, .ref mo, .int us, .int me, .int rc, .int (zb dn), .int lf, .int mw, .int mf, .ref m_p, .ref m_w, .ref m_l, .ref m_v, .int ms, .int mu, .long ml, .ref m_r, .int o_mz_19, .ref m_q])), (mo, .inl (y 4, 2, .inr (.inr (.inr (.inr (outr m1 m2)))))), (m1, .inl (y 0, nb, .inl c1)), (m2, .inl (y 0, nb, .inl c2)), (m_p, .inl (y 1, 121, .inl mpa)), (m_w, .inl (y 1, 121, .inl mwe)), (m_l, .inl (y 3, 121, .inl mli)), (m_v, .inl (y 2, 121, .inr (.inl mvo))), (m_r, .inl (y 0, 32, .inl o_mro_20)), (m_q, .inl (y 1, 260, .inl mpl))]) hfix (cX9_u1_ok l D y am mo m1 m2 m_p m_w m_l m_v m_r m_q nb th mb us me rc dn lf mw mf ms mu ml o_mz_16 c1 c2 mpa mwe mli mvo o_mro_17 mpl p1 _ hc_21) (cwV 1 hts gX9_register_X9_u1 rfl rfl rfl (by decide +kernel) ⟨Nat.le_of_ble_eq_true rfl, Nat.le_of_ble_eq_true rfl⟩) E hP hD hS [0, 1, 2, 3, 4, 5, 6, 7, 8, 9] [] [0, 1, 2, 3, 4, 5, 6, 7, 8, 9] rfl rfl rfl rfl (by decide) rfl rfl 0 8 rfl rfl rfl hl.1 rfl (Nat.le_of_ble_eq_true rfl) dX9_register_88 ⟨Nat.zero_le _, Nat.zero_le _⟩ (fun H locs hP hD hS => ?_)
                refine W.eq (g2 := F0 m 91 ls []) rfl ?_
                refine lv_aload_n hx hb dX9_register_91 rfl (lv_at hl 0 rfl) ?_
                refine lv_lload_n hx hb dX9_register_92 rfl (lv_at hl 2 rfl) ?_
                obtain ⟨⟨o_mz_22, o_mro_23⟩, hc_24, hf⟩ := obd hf
                refine ct_V (As := [.long p2]) (rest := []) (wr := []) (wn := [(am, .inr (8, [.int th, .int mb, .ref mo, .int us, .int me, .int rc, .int (zb dn), .int lf, .int mw, .int mf, .ref m_p, .ref m_w, .ref m_l, .ref m_v, .int ms, .int mu, .long ml, .ref m_r, .int o_mz_22, .ref m_q])), (mo, .inl (y 4, 2, .inr (.inr (.inr (.inr (outr m1 m2)))))), (m1, .inl (y 0, nb, .inl c1)), (m2, .inl (y 0, nb, .inl c2)), (m_p, .inl (y 1, 121, .inl mpa)), (m_w, .inl (y 1, 121, .inl mwe)), (m_l, .inl (y 3, 121, .inl mli)), (m_v, .inl (y 2, 121, .inr (.inl mvo))), (m_r, .inl (y 0, 32, .inl o_mro_23)), (m_q, .inl (y 1, 260, .inl mpl))]) hfix (cX9_u8_ok l D y am mo m1 m2 m_p m_w m_l m_v m_r m_q nb th mb us me rc dn lf mw mf ms mu ml o_mz_19 c1 c2 mpa mwe mli mvo o_mro_20 mpl p2 _ hc_24) (cwV 1 hts gX9_register_X9_u8 rfl rfl rfl (by decide +kernel) ⟨Nat.le_of_ble_eq_true rfl, Nat.le_of_ble_eq_true rfl⟩) E hP hD hS [0, 1, 2, 3, 4, 5, 6, 7, 8, 9] [] [0, 1, 2, 3, 4, 5, 6, 7, 8, 9] rfl rfl rfl rfl (by decide) rfl rfl 0 8 rfl rfl rfl hl.1 rfl (Nat.le_of_ble_eq_true rfl) dX9_register_93 ⟨Nat.zero_le _, Nat.zero_le _⟩ (fun H locs hP hD hS => ?_)
                refine W.eq (g2 := F0 m 96 ls []) rfl ?_
                refine lv_aload_n hx hb dX9_register_96 rfl (lv_at hl 0 rfl) ?_
                obtain ⟨⟨r_25, o_me_26, o_rc_27, o_dn_28, o_lf_29, o_mw_30, o_mf_31, o_ms_32, o_mu_33, o_ml_34, o_mz_35, o_c1_36, o_c2_37, o_mpa_38, o_mwe_39, o_mli_40, o_mvo_41, o_mro_42, o_mpl_43⟩, hc_44, hf⟩ := obd hf
                refine ct_V (As := []) (rest := []) (wr := []) (wn := [(am, .inr (8, [.int th, .int mb, .ref mo, .int us, .int o_me_26, .int o_rc_27, .int (zb o_dn_28), .int o_lf_29, .int o_mw_30, .int o_mf_31, .ref m_p, .ref m_w, .ref m_l, .ref m_v, .int o_ms_32, .int o_mu_33, .long o_ml_34, .ref m_r, .int o_mz_35, .ref m_q])), (mo, .inl (y 4, 2, .inr (.inr (.inr (.inr (outr m1 m2)))))), (m1, .inl (y 0, nb, .inl o_c1_36)), (m2, .inl (y 0, nb, .inl o_c2_37)), (m_p, .inl (y 1, 121, .inl o_mpa_38)), (m_w, .inl (y 1, 121, .inl o_mwe_39)), (m_l, .inl (y 3, 121, .inl o_mli_40)), (m_v, .inl (y 2, 121, .inr (.inl o_mvo_41))), (m_r, .inl (y 0, 32, .inl o_mro_42)), (m_q, .inl (y 1, 260, .inl o_mpl_43))]) hfix (cX9_acts_ok l D y am mo m1 m2 m_p m_w m_l m_v m_r m_q nb th mb us me rc dn lf mw mf ms mu ml o_mz_22 c1 c2 mpa mwe mli mvo o_mro_23 mpl _ hc_44) (cwV 0 hts gX9_register_X9_acts rfl rfl rfl (by decide +kernel) ⟨Nat.le_of_ble_eq_true rfl, Nat.le_of_ble_eq_true rfl⟩) E hP hD hS [0, 1, 2, 3, 4, 5, 6, 7, 8, 9] [] [0, 1, 2, 3, 4, 5, 6, 7, 8, 9] rfl rfl rfl rfl (by decide) rfl rfl 0 8 rfl rfl rfl hl.1 rfl (Nat.le_of_ble_eq_true rfl) dX9_register_97 ⟨Nat.zero_le _, Nat.zero_le _⟩ (fun H locs hP hD hS => ?_)
                refine W.eq (g2 := F0 m 100 ls [.int (zb r_25)]) rfl ?_
                refine lv_if_eq (tgt := 110) hx hb dX9_register_100 (by decide) (fun c_45 => ?_) (fun c_45 => ?_)
                · have hf := ifp hf c_45
                  refine lv_iconst (v := (-1 : Int32)) hx hb dX9_register_110 (by decide) ?_
                  obtain rfl := Option.some.inj hf
                  exact W.iret hx hb hr (fun t ht hW => ⟨⟨(), rfl, by rw [ht]; exact hP, hD⟩, hS.F ht⟩) hS.2.2 dX9_register_111
                · have hf := ifn hf c_45
                  refine lv_aload_n hx hb dX9_register_103 rfl (lv_at hl 0 rfl) ?_
                  refine va_get (D := D) (ci := 8) (v := .int o_ms_32) (C := RX9) (T := TX9) (N := 20) hx hb hts iX9 hown hK hP 0 rfl rfl 14 (by decide) (hts (.fieldLink RX9 115 "SampleTrackerModel" "samples" "I") (by decide +kernel)) (fun _ h9 => h9) rfl dX9_register_104 ?_
                  refine lv_goto (tgt := 111) hx hb dX9_register_107 (by decide) ?_
                  obtain rfl := Option.some.inj hf
                  exact W.iret hx hb hr (fun t ht hW => ⟨⟨(), rfl, by rw [ht]; exact hP, hD⟩, hS.F ht⟩) hS.2.2 dX9_register_111
              · have hf := ifp hf c_15
                refine lv_bipush (v := (-6 : Int32)) hx hb dX9_register_78 (by decide) ?_
                obtain rfl := Option.some.inj hf
                exact W.iret hx hb hr (fun t ht hW => ⟨⟨(), rfl, by rw [ht]; exact hP, hD⟩, hS.F ht⟩) hS.2.2 dX9_register_80
            · have hf := ifp hf c_12
              refine lv_bipush (v := (-5 : Int32)) hx hb dX9_register_67 (by decide) ?_
              obtain rfl := Option.some.inj hf
              exact W.iret hx hb hr (fun t ht hW => ⟨⟨(), rfl, by rw [ht]; exact hP, hD⟩, hS.F ht⟩) hS.2.2 dX9_register_69
          · have hf := ifn hf c_11
            refine lv_bipush (v := (-4 : Int32)) hx hb dX9_register_55 (by decide) ?_
            obtain rfl := Option.some.inj hf
            exact W.iret hx hb hr (fun t ht hW => ⟨⟨(), rfl, by rw [ht]; exact hP, hD⟩, hS.F ht⟩) hS.2.2 dX9_register_57
      · have hf := ifn hf c_7
        refine lv_bipush (v := (-3 : Int32)) hx hb dX9_register_28 (by decide) ?_
        obtain rfl := Option.some.inj hf
        exact W.iret hx hb hr (fun t ht hW => ⟨⟨(), rfl, by rw [ht]; exact hP, hD⟩, hS.F ht⟩) hS.2.2 dX9_register_30
    · have hf := ifp hf c_4
      refine lv_bipush (v := (-2 : Int32)) hx hb dX9_register_16 (by decide) ?_
      obtain rfl := Option.some.inj hf
      exact W.iret hx hb hr (fun t ht hW => ⟨⟨(), rfl, by rw [ht]; exact hP, hD⟩, hS.F ht⟩) hS.2.2 dX9_register_18
  · have hf := ifn hf c_1
    refine lv_iconst (v := (-1 : Int32)) hx hb dX9_register_7 (by decide) ?_
    obtain rfl := Option.some.inj hf
    exact W.iret hx hb hr (fun t ht hW => ⟨⟨(), rfl, by rw [ht]; exact hP, hD⟩, hS.F ht⟩) hS.2.2 dX9_register_8

def fX9_aliquot (nb : Nat) (mb : Int32) (us : Int32) (me : Int32) (rc : Int32) (dn : Bool) (lf : Int32) (mw : Int32) (mf : Int32) (ms : Int32) (mu : Int32) (ml : Int64) (mz : Int32) (c1 : Nat → Int32) (c2 : Nat → Int32) (mpa : Nat → Int32) (mwe : Nat → Int32) (mli : Nat → Int32) (mvo : Nat → Int64) (mro : Nat → Int32) (mpl : Nat → Int32) (p1 : Int32) (p2 : Int32) (p3 : Int64) : Option (Int32 × Int32 × Int32 × Bool × Int32 × Int32 × Int32 × Int32 × Int32 × Int64 × Int32 × (Nat → Int32) × (Nat → Int32) × (Nat → Int32) × (Nat → Int32) × (Nat → Int32) × (Nat → Int64) × (Nat → Int32) × (Nat → Int32)) := (if (zb dn) = 0 then ((fX9_isLive ms mli p1).bind fun r_2 => (if (zb r_2) = 0 then some ((-2 : Int32), me, rc, dn, lf, mw, mf, ms, mu, ml, mz, c1, c2, mpa, mwe, mli, mvo, mro, mpl) else ((fX9_isWell p2).bind fun r_5 => (if (zb r_5) = 0 then some ((-2 : Int32), me, rc, dn, lf, mw, mf, ms, mu, ml, mz, c1, c2, mpa, mwe, mli, mvo, mro, mpl) else ((fX9_liveIn ms mwe mli p2).bind fun r_8 => (if r_8 = (-1 : Int32) then (if (lg_cmp p3 (1 : Int64)) < 0 then some ((-4 : Int32), me, rc, dn, lf, mw, mf, ms, mu, ml, mz, c1, c2, mpa, mwe, mli, mvo, mro, mpl) else (if (ib p1 121) = true then (if (lg_cmp p3 (mvo p1.toNatClampNeg)) ≤ 0 then (if ms = (120 : Int32) then some ((-5 : Int32), me, rc, dn, lf, mw, mf, ms, mu, ml, mz, c1, c2, mpa, mwe, mli, mvo, mro, mpl) else ((fX9_hasRoom mb me (2 : Int32)).bind fun r_15 => (if (zb r_15) = 0 then some ((-6 : Int32), me, rc, dn, lf, mw, mf, ms, mu, ml, mz, c1, c2, mpa, mwe, mli, mvo, mro, mpl) else ((fX9_begin mro (2 : Int32)).bind fun (o_mz_18, o_mro_19) => ((fX9_u2 o_mz_18 o_mro_19 p1).bind fun (o_mz_21, o_mro_22) => ((fX9_u1 o_mz_21 o_mro_22 p2).bind fun (o_mz_24, o_mro_25) => ((fX9_u8 o_mz_24 o_mro_25 p3).bind fun (o_mz_27, o_mro_28) => ((fX9_acts nb mb us me rc dn lf mw mf ms mu ml o_mz_27 c1 c2 mpa mwe mli mvo o_mro_28 mpl).bind fun (r_30, o_me_31, o_rc_32, o_dn_33, o_lf_34, o_mw_35, o_mf_36, o_ms_37, o_mu_38, o_ml_39, o_mz_40, o_c1_41, o_c2_42, o_mpa_43, o_mwe_44, o_mli_45, o_mvo_46, o_mro_47, o_mpl_48) => (if (zb r_30) = 0 then some ((-1 : Int32), o_me_31, o_rc_32, o_dn_33, o_lf_34, o_mw_35, o_mf_36, o_ms_37, o_mu_38, o_ml_39, o_mz_40, o_c1_41, o_c2_42, o_mpa_43, o_mwe_44, o_mli_45, o_mvo_46, o_mro_47, o_mpl_48) else some (o_ms_37, o_me_31, o_rc_32, o_dn_33, o_lf_34, o_mw_35, o_mf_36, o_ms_37, o_mu_38, o_ml_39, o_mz_40, o_c1_41, o_c2_42, o_mpa_43, o_mwe_44, o_mli_45, o_mvo_46, o_mro_47, o_mpl_48)))))))))) else some ((-4 : Int32), me, rc, dn, lf, mw, mf, ms, mu, ml, mz, c1, c2, mpa, mwe, mli, mvo, mro, mpl)) else none)) else some ((-3 : Int32), me, rc, dn, lf, mw, mf, ms, mu, ml, mz, c1, c2, mpa, mwe, mli, mvo, mro, mpl))))))) else some ((-1 : Int32), me, rc, dn, lf, mw, mf, ms, mu, ml, mz, c1, c2, mpa, mwe, mli, mvo, mro, mpl))

set_option maxHeartbeats 4000000 in
set_option maxRecDepth 100000 in
theorem cX9_aliquot_ok (l : Launch) (D : va_G) (y : Nat → ClassId) (am : Nat) (mo : Nat) (m1 : Nat) (m2 : Nat) (m_p : Nat) (m_w : Nat) (m_l : Nat) (m_v : Nat) (m_r : Nat) (m_q : Nat) (nb : Nat) (th : Int32) (mb : Int32) (us : Int32) (me : Int32) (rc : Int32) (dn : Bool) (lf : Int32) (mw : Int32) (mf : Int32) (ms : Int32) (mu : Int32) (ml : Int64) (mz : Int32) (c1 : Nat → Int32) (c2 : Nat → Int32) (mpa : Nat → Int32) (mwe : Nat → Int32) (mli : Nat → Int32) (mvo : Nat → Int64) (mro : Nat → Int32) (mpl : Nat → Int32) (p1 : Int32) (p2 : Int32) (p3 : Int64) (res : Int32 × Int32 × Int32 × Bool × Int32 × Int32 × Int32 × Int32 × Int32 × Int64 × Int32 × (Nat → Int32) × (Nat → Int32) × (Nat → Int32) × (Nat → Int32) × (Nat → Int32) × (Nat → Int64) × (Nat → Int32) × (Nat → Int32)) (hf : fX9_aliquot nb mb us me rc dn lf mw mf ms mu ml mz c1 c2 mpa mwe mli mvo mro mpl p1 p2 p3 = some res) : CT l D y yX9_aliquot wsX9_aliquot ({ frames := 5, cells := 0, slots := 0, locals := 103 } : Room) [.ref am, .int p1, .int p2, .long p3] [(am, .inr (8, [.int th, .int mb, .ref mo, .int us, .int me, .int rc, .int (zb dn), .int lf, .int mw, .int mf, .ref m_p, .ref m_w, .ref m_l, .ref m_v, .int ms, .int mu, .long ml, .ref m_r, .int mz, .ref m_q])), (mo, .inl (y 4, 2, .inr (.inr (.inr (.inr (outr m1 m2)))))), (m1, .inl (y 0, nb, .inl c1)), (m2, .inl (y 0, nb, .inl c2)), (m_p, .inl (y 1, 121, .inl mpa)), (m_w, .inl (y 1, 121, .inl mwe)), (m_l, .inl (y 3, 121, .inl mli)), (m_v, .inl (y 2, 121, .inr (.inl mvo))), (m_r, .inl (y 0, 32, .inl mro)), (m_q, .inl (y 1, 260, .inl mpl))] (some (.int res.1)) [(am, .inr (8, [.int th, .int mb, .ref mo, .int us, .int res.2.1, .int res.2.2.1, .int (zb res.2.2.2.1), .int res.2.2.2.2.1, .int res.2.2.2.2.2.1, .int res.2.2.2.2.2.2.1, .ref m_p, .ref m_w, .ref m_l, .ref m_v, .int res.2.2.2.2.2.2.2.1, .int res.2.2.2.2.2.2.2.2.1, .long res.2.2.2.2.2.2.2.2.2.1, .ref m_r, .int res.2.2.2.2.2.2.2.2.2.2.1, .ref m_q])), (mo, .inl (y 4, 2, .inr (.inr (.inr (.inr (outr m1 m2)))))), (m1, .inl (y 0, nb, .inl res.2.2.2.2.2.2.2.2.2.2.2.1)), (m2, .inl (y 0, nb, .inl res.2.2.2.2.2.2.2.2.2.2.2.2.1)), (m_p, .inl (y 1, 121, .inl res.2.2.2.2.2.2.2.2.2.2.2.2.2.1)), (m_w, .inl (y 1, 121, .inl res.2.2.2.2.2.2.2.2.2.2.2.2.2.2.1)), (m_l, .inl (y 3, 121, .inl res.2.2.2.2.2.2.2.2.2.2.2.2.2.2.2.1)), (m_v, .inl (y 2, 121, .inr (.inl res.2.2.2.2.2.2.2.2.2.2.2.2.2.2.2.2.1))), (m_r, .inl (y 0, 32, .inl res.2.2.2.2.2.2.2.2.2.2.2.2.2.2.2.2.2.1)), (m_q, .inl (y 1, 260, .inl res.2.2.2.2.2.2.2.2.2.2.2.2.2.2.2.2.2.2))] := by
  intro sz
  refine Met.ofW (cc := cX9_aliquot) (maxL := 5) (ret := (some .int)) (by decide) rfl ?_
  intro p e s m args below meth c s₁ B hml hv
  obtain ⟨rfl, hsz, hP, hK, hD0, hst, hno⟩ := hv
  have hx := B.exec
  have hb := B.bytes
  have hr := B.returns
  have hts := atoms_spec (ws := wsX9_aliquot) B.pre
  have hown : s.vm.findClass RX9 = some m.cls := findClass_of_methodNamed B.named
  have hlocks := B.notSynchronized
  subst hsz
  have hD := hD0.self (sz := s.heap.size)
  generalize hAe : va_A [(am, .inr (8, [.int th, .int mb, .ref mo, .int us, .int me, .int rc, .int (zb dn), .int lf, .int mw, .int mf, .ref m_p, .ref m_w, .ref m_l, .ref m_v, .int ms, .int mu, .long ml, .ref m_r, .int mz, .ref m_q])), (mo, .inl (y 4, 2, .inr (.inr (.inr (.inr (outr m1 m2)))))), (m1, .inl (y 0, nb, .inl c1)), (m2, .inl (y 0, nb, .inl c2)), (m_p, .inl (y 1, 121, .inl mpa)), (m_w, .inl (y 1, 121, .inl mwe)), (m_l, .inl (y 3, 121, .inl mli)), (m_v, .inl (y 2, 121, .inr (.inl mvo))), (m_r, .inl (y 0, 32, .inl mro)), (m_q, .inl (y 1, 260, .inl mpl))] s.heap.size = A at hD hst ⊢
  have hA : ∀ q : Nat, s.heap.size ≤ q → A q := fun q h => by rw [← hAe]; exact Or.inr h
  have hS : va_S A s.heap s.heap [] := va_S.rf
  have E : Ev D y A s := ⟨hK, hst, hno, hA⟩
  have hfix : CallFix p m c cX9_aliquot 5 s _ wsX9_aliquot RX9 := ⟨hx, hb, hml, hown, hts⟩
  have hP : va_P D vwCl [(am, .inr (8, [.int th, .int mb, .ref mo, .int us, .int me, .int rc, .int (zb dn), .int lf, .int mw, .int mf, .ref m_p, .ref m_w, .ref m_l, .ref m_v, .int ms, .int mu, .long ml, .ref m_r, .int mz, .ref m_q])), (mo, .inl (y 4, 2, .inr (.inr (.inr (.inr (outr m1 m2)))))), (m1, .inl (y 0, nb, .inl c1)), (m2, .inl (y 0, nb, .inl c2)), (m_p, .inl (y 1, 121, .inl mpa)), (m_w, .inl (y 1, 121, .inl mwe)), (m_l, .inl (y 3, 121, .inl mli)), (m_v, .inl (y 2, 121, .inr (.inl mvo))), (m_r, .inl (y 0, 32, .inl mro)), (m_q, .inl (y 1, 260, .inl mpl))] s.heap := hP
  have iX9 : ∀ w ∈ wsX90, w ∈ wsX9_aliquot := by decide +kernel
  have hl := lv_entry ([.ref am, .int p1, .int p2, .long p3]) (n := 5) (Nat.le_of_ble_eq_true rfl)
  rw [lg_entry_eq]
  generalize (lg_sl ([.ref am, .int p1, .int p2, .long p3]) ++ List.replicate (5 - (lg_sl ([.ref am, .int p1, .int p2, .long p3])).length) Slot.unset).toArray = ls at hl ⊢
  have hl : lv_has ls 5 [(0, .ref am), (1, .int p1), (2, .int p2), (3, .long p3)] := hl
  unfold fX9_aliquot at hf
  refine lv_aload_n hx hb dX9_aliquot_0 rfl (lv_at hl 0 rfl) ?_
  refine va_get (D := D) (ci := 8) (v := .int (zb dn)) (C := RX9) (T := TX9) (N := 20) hx hb hts iX9 hown hK hP 0 rfl rfl 6 (by decide) (hts (.fieldLink RX9 77 "SampleTrackerModel" "isDown" "Z") (by decide +kernel)) (fun _ h9 => h9) rfl dX9_aliquot_1 ?_
  refine lv_if_eq (tgt := 9) hx hb dX9_aliquot_4 (by decide) (fun c_1 => ?_) (fun c_1 => ?_)
  · have hf := ifp hf c_1
    refine lv_aload_n hx hb dX9_aliquot_9 rfl (lv_at hl 0 rfl) ?_
    refine lv_iload_n hx hb dX9_aliquot_10 rfl (lv_at hl 1 rfl) ?_
    obtain ⟨r_2, hc_3, hf⟩ := obd hf
    refine ct_V (As := [.int p1]) (rest := []) (wr := []) (wn := [(am, .inr (8, [.int th, .int mb, .ref mo, .int us, .int me, .int rc, .int (zb dn), .int lf, .int mw, .int mf, .ref m_p, .ref m_w, .ref m_l, .ref m_v, .int ms, .int mu, .long ml, .ref m_r, .int mz, .ref m_q])), (mo, .inl (y 4, 2, .inr (.inr (.inr (.inr (outr m1 m2)))))), (m1, .inl (y 0, nb, .inl c1)), (m2, .inl (y 0, nb, .inl c2)), (m_p, .inl (y 1, 121, .inl mpa)), (m_w, .inl (y 1, 121, .inl mwe)), (m_l, .inl (y 3, 121, .inl mli)), (m_v, .inl (y 2, 121, .inr (.inl mvo))), (m_r, .inl (y 0, 32, .inl mro)), (m_q, .inl (y 1, 260, .inl mpl))]) hfix (cX9_isLive_ok l D y am mo m1 m2 m_p m_w m_l m_v m_r m_q nb th mb us me rc dn lf mw mf ms mu ml mz c1 c2 mpa mwe mli mvo mro mpl p1 _ hc_3) (cwV 1 hts gX9_aliquot_X9_isLive rfl rfl rfl (by decide +kernel) ⟨Nat.le_of_ble_eq_true rfl, Nat.le_of_ble_eq_true rfl⟩) E hP hD hS [0, 1, 2, 3, 4, 5, 6, 7, 8, 9] [] [0, 1, 2, 3, 4, 5, 6, 7, 8, 9] rfl rfl rfl rfl (by decide) rfl rfl 0 8 rfl rfl rfl hl.1 rfl (Nat.le_of_ble_eq_true rfl) dX9_aliquot_11 ⟨Nat.zero_le _, Nat.zero_le _⟩ (fun H locs hP hD hS => ?_)
    refine W.eq (g2 := F0 m 14 ls [.int (zb r_2)]) rfl ?_
    refine lv_if_eq (tgt := 24) hx hb dX9_aliquot_14 (by decide) (fun c_4 => ?_) (fun c_4 => ?_)
    · have hf := ifp hf c_4
      refine lv_bipush (v := (-2 : Int32)) hx hb dX9_aliquot_24 (by decide) ?_
      obtain rfl := Option.some.inj hf
      exact W.iret hx hb hr (fun t ht hW => ⟨⟨(), rfl, by rw [ht]; exact hP, hD⟩, hS.F ht⟩) hS.2.2 dX9_aliquot_26
    · have hf := ifn hf c_4
      refine lv_iload_n hx hb dX9_aliquot_17 rfl (lv_at hl 2 rfl) ?_
      obtain ⟨r_5, hc_6, hf⟩ := obd hf
      refine ct_S (As := [.int p2]) (rest := []) (wr := [(am, .inr (8, [.int th, .int mb, .ref mo, .int us, .int me, .int rc, .int (zb dn), .int lf, .int mw, .int mf, .ref m_p, .ref m_w, .ref m_l, .ref m_v, .int ms, .int mu, .long ml, .ref m_r, .int mz, .ref m_q])), (mo, .inl (y 4, 2, .inr (.inr (.inr (.inr (outr m1 m2)))))), (m1, .inl (y 0, nb, .inl c1)), (m2, .inl (y 0, nb, .inl c2)), (m_p, .inl (y 1, 121, .inl mpa)), (m_w, .inl (y 1, 121, .inl mwe)), (m_l, .inl (y 3, 121, .inl mli)), (m_v, .inl (y 2, 121, .inr (.inl mvo))), (m_r, .inl (y 0, 32, .inl mro)), (m_q, .inl (y 1, 260, .inl mpl))]) (wn := [(am, .inr (8, [.int th, .int mb, .ref mo, .int us, .int me, .int rc, .int (zb dn), .int lf, .int mw, .int mf, .ref m_p, .ref m_w, .ref m_l, .ref m_v, .int ms, .int mu, .long ml, .ref m_r, .int mz, .ref m_q])), (mo, .inl (y 4, 2, .inr (.inr (.inr (.inr (outr m1 m2)))))), (m1, .inl (y 0, nb, .inl c1)), (m2, .inl (y 0, nb, .inl c2)), (m_p, .inl (y 1, 121, .inl mpa)), (m_w, .inl (y 1, 121, .inl mwe)), (m_l, .inl (y 3, 121, .inl mli)), (m_v, .inl (y 2, 121, .inr (.inl mvo))), (m_r, .inl (y 0, 32, .inl mro)), (m_q, .inl (y 1, 260, .inl mpl))]) hfix (cX9_isWell_ok l D y p2 _ hc_6) (va_cwS 1 hts gX9_aliquot_X9_isWell rfl rfl rfl (by decide +kernel) ⟨Nat.le_of_ble_eq_true rfl, Nat.le_of_ble_eq_true rfl⟩) E hP hD hS [] [0, 1, 2, 3, 4, 5, 6, 7, 8, 9] [0, 1, 2, 3, 4, 5, 6, 7, 8, 9] rfl rfl rfl rfl (by decide) rfl rfl rfl hl.1 rfl (Nat.le_of_ble_eq_true rfl) dX9_aliquot_18 ⟨Nat.zero_le _, Nat.zero_le _⟩ (fun H locs hP hD hS => ?_)
      refine W.eq (g2 := F0 m 21 ls [.int (zb r_5)]) rfl ?_
      refine lv_if_ne (tgt := 27) hx hb dX9_aliquot_21 (by decide) (fun c_7 => ?_) (fun c_7 => ?_)
      · have hf := ifn hf c_7
        refine lv_aload_n hx hb dX9_aliquot_27 rfl (lv_at hl 0 rfl) ?_
        refine lv_iload_n hx hb dX9_aliquot_28 rfl (lv_at hl 2 rfl) ?_
        obtain ⟨r_8, hc_9, hf⟩ := obd hf
        refine ct_V (As := [.int p2]) (rest := []) (wr := []) (wn := [(am, .inr (8, [.int th, .int mb, .ref mo, .int us, .int me, .int rc, .int (zb dn), .int lf, .int mw, .int mf, .ref m_p, .ref m_w, .ref m_l, .ref m_v, .int ms, .int mu, .long ml, .ref m_r, .int mz, .ref m_q])), (mo, .inl (y 4, 2, .inr (.inr (.inr (.inr (outr m1 m2)))))), (m1, .inl (y 0, nb, .inl c1)), (m2, .inl (y 0, nb, .inl c2)), (m_p, .inl (y 1, 121, .inl mpa)), (m_w, .inl (y 1, 121, .inl mwe)), (m_l, .inl (y 3, 121, .inl mli)), (m_v, .inl (y 2, 121, .inr (.inl mvo))), (m_r, .inl (y 0, 32, .inl mro)), (m_q, .inl (y 1, 260, .inl mpl))]) hfix (cX9_liveIn_ok l D y am mo m1 m2 m_p m_w m_l m_v m_r m_q nb th mb us me rc dn lf mw mf ms mu ml mz c1 c2 mpa mwe mli mvo mro mpl p2 _ hc_9) (cwV 1 hts gX9_aliquot_X9_liveIn rfl rfl rfl (by decide +kernel) ⟨Nat.le_of_ble_eq_true rfl, Nat.le_of_ble_eq_true rfl⟩) E hP hD hS [0, 1, 2, 3, 4, 5, 6, 7, 8, 9] [] [0, 1, 2, 3, 4, 5, 6, 7, 8, 9] rfl rfl rfl rfl (by decide) rfl rfl 0 8 rfl rfl rfl hl.1 rfl (Nat.le_of_ble_eq_true rfl) dX9_aliquot_29 ⟨Nat.zero_le _, Nat.zero_le _⟩ (fun H locs hP hD hS => ?_)
        refine W.eq (g2 := F0 m 32 ls [.int r_8]) rfl ?_
        refine lv_iconst (v := (-1 : Int32)) hx hb dX9_aliquot_32 (by decide) ?_
        refine lv_icmp_eq (tgt := 39) hx hb dX9_aliquot_33 (by decide) (fun c_10 => ?_) (fun c_10 => ?_)
        · have hf := ifp hf c_10
          refine lv_lload_n hx hb dX9_aliquot_39 rfl (lv_at hl 3 rfl) ?_
          refine lv_lconst (v := (1 : Int64)) hx hb dX9_aliquot_40 (by decide) ?_
          refine W.lcmp hx hb dX9_aliquot_41 ?_
          refine lv_if_lt (tgt := 56) hx hb dX9_aliquot_42 (by decide) (fun c_11 => ?_) (fun c_11 => ?_)
          · have hf := ifp hf c_11
            refine lv_bipush (v := (-4 : Int32)) hx hb dX9_aliquot_56 (by decide) ?_
            obtain rfl := Option.some.inj hf
            exact W.iret hx hb hr (fun t ht hW => ⟨⟨(), rfl, by rw [ht]; exact hP, hD⟩, hS.F ht⟩) hS.2.2 dX9_aliquot_58
          · have hf := ifn hf c_11
            refine lv_lload_n hx hb dX9_aliquot_45 rfl (lv_at hl 3 rfl) ?_
            refine lv_aload_n hx hb dX9_aliquot_46 rfl (lv_at hl 0 rfl) ?_
            refine va_get (D := D) (ci := 8) (v := .ref m_v) (C := RX9) (T := TX9) (N := 20) hx hb hts iX9 hown hK hP 0 rfl rfl 13 (by decide) (hts (.fieldLink RX9 24 "SampleTrackerModel" "volume" "[J") (by decide +kernel)) (fun _ h9 => h9) rfl dX9_aliquot_47 ?_
            refine lv_iload_n hx hb dX9_aliquot_50 rfl (lv_at hl 1 rfl) ?_
            obtain ⟨h_12, hf⟩ := ibk hf
            refine va_lald hx hb hK hP 7 2 rfl rfl (ib_in h_12) dX9_aliquot_51 ?_
            refine W.lcmp hx hb dX9_aliquot_52 ?_
            refine lv_if_le (tgt := 59) hx hb dX9_aliquot_53 (by decide) (fun c_13 => ?_) (fun c_13 => ?_)
            · have hf := ifp hf c_13
              refine lv_aload_n hx hb dX9_aliquot_59 rfl (lv_at hl 0 rfl) ?_
              refine va_get (D := D) (ci := 8) (v := .int ms) (C := RX9) (T := TX9) (N := 20) hx hb hts iX9 hown hK hP 0 rfl rfl 14 (by decide) (hts (.fieldLink RX9 115 "SampleTrackerModel" "samples" "I") (by decide +kernel)) (fun _ h9 => h9) rfl dX9_aliquot_60 ?_
              refine lv_bipush (v := (120 : Int32)) hx hb dX9_aliquot_63 (by decide) ?_
              refine lv_icmp_ne (tgt := 71) hx hb dX9_aliquot_65 (by decide) (fun c_14 => ?_) (fun c_14 => ?_)
              · have hf := ifn hf c_14
                refine lv_aload_n hx hb dX9_aliquot_71 rfl (lv_at hl 0 rfl) ?_
                refine lv_iconst (v := (2 : Int32)) hx hb dX9_aliquot_72 (by decide) ?_
                obtain ⟨r_15, hc_16, hf⟩ := obd hf
                refine ct_V (As := [.int (2 : Int32)]) (rest := []) (wr := []) (wn := [(am, .inr (8, [.int th, .int mb, .ref mo, .int us, .int me, .int rc, .int (zb dn), .int lf, .int mw, .int mf, .ref m_p, .ref m_w, .ref m_l, .ref m_v, .int ms, .int mu, .long ml, .ref m_r, .int mz, .ref m_q])), (mo, .inl (y 4, 2, .inr (.inr (.inr (.inr (outr m1 m2)))))), (m1, .inl (y 0, nb, .inl c1)), (m2, .inl (y 0, nb, .inl c2)), (m_p, .inl (y 1, 121, .inl mpa)), (m_w, .inl (y 1, 121, .inl mwe)), (m_l, .inl (y 3, 121, .inl mli)), (m_v, .inl (y 2, 121, .inr (.inl mvo))), (m_r, .inl (y 0, 32, .inl mro)), (m_q, .inl (y 1, 260, .inl mpl))]) hfix (cX9_hasRoom_ok l D y am mo m1 m2 m_p m_w m_l m_v m_r m_q nb th mb us me rc dn lf mw mf ms mu ml mz c1 c2 mpa mwe mli mvo mro mpl (2 : Int32) _ hc_16) (cwV 1 hts gX9_aliquot_X9_hasRoom rfl rfl rfl (by decide +kernel) ⟨Nat.le_of_ble_eq_true rfl, Nat.le_of_ble_eq_true rfl⟩) E hP hD hS [0, 1, 2, 3, 4, 5, 6, 7, 8, 9] [] [0, 1, 2, 3, 4, 5, 6, 7, 8, 9] rfl rfl rfl rfl (by decide) rfl rfl 0 8 rfl rfl rfl hl.1 rfl (Nat.le_of_ble_eq_true rfl) dX9_aliquot_73 ⟨Nat.zero_le _, Nat.zero_le _⟩ (fun H locs hP hD hS => ?_)
                refine W.eq (g2 := F0 m 76 ls [.int (zb r_15)]) rfl ?_
                refine lv_if_ne (tgt := 82) hx hb dX9_aliquot_76 (by decide) (fun c_17 => ?_) (fun c_17 => ?_)
                · have hf := ifn hf c_17
                  refine lv_aload_n hx hb dX9_aliquot_82 rfl (lv_at hl 0 rfl) ?_
                  refine lv_iconst (v := (2 : Int32)) hx hb dX9_aliquot_83 (by decide) ?_
                  obtain ⟨⟨o_mz_18, o_mro_19⟩, hc_20, hf⟩ := obd hf
                  refine ct_V (As := [.int (2 : Int32)]) (rest := []) (wr := []) (wn := [(am, .inr (8, [.int th, .int mb, .ref mo, .int us, .int me, .int rc, .int (zb dn), .int lf, .int mw, .int mf, .ref m_p, .ref m_w, .ref m_l, .ref m_v, .int ms, .int mu, .long ml, .ref m_r, .int o_mz_18, .ref m_q])), (mo, .inl (y 4, 2, .inr (.inr (.inr (.inr (outr m1 m2)))))), (m1, .inl (y 0, nb, .inl c1)), (m2, .inl (y 0, nb, .inl c2)), (m_p, .inl (y 1, 121, .inl mpa)), (m_w, .inl (y 1, 121, .inl mwe)), (m_l, .inl (y 3, 121, .inl mli)), (m_v, .inl (y 2, 121, .inr (.inl mvo))), (m_r, .inl (y 0, 32, .inl o_mro_19)), (m_q, .inl (y 1, 260, .inl mpl))]) hfix (cX9_begin_ok l D y am mo m1 m2 m_p m_w m_l m_v m_r m_q nb th mb us me rc dn lf mw mf ms mu ml mz c1 c2 mpa mwe mli mvo mro mpl (2 : Int32) _ hc_20) (cwV 1 hts gX9_aliquot_X9_begin rfl rfl rfl (by decide +kernel) ⟨Nat.le_of_ble_eq_true rfl, Nat.le_of_ble_eq_true rfl⟩) E hP hD hS [0, 1, 2, 3, 4, 5, 6, 7, 8, 9] [] [0, 1, 2, 3, 4, 5, 6, 7, 8, 9] rfl rfl rfl rfl (by decide) rfl rfl 0 8 rfl rfl rfl hl.1 rfl (Nat.le_of_ble_eq_true rfl) dX9_aliquot_84 ⟨Nat.zero_le _, Nat.zero_le _⟩ (fun H locs hP hD hS => ?_)
                  refine W.eq (g2 := F0 m 87 ls []) rfl ?_
                  refine lv_aload_n hx hb dX9_aliquot_87 rfl (lv_at hl 0 rfl) ?_
                  refine lv_iload_n hx hb dX9_aliquot_88 rfl (lv_at hl 1 rfl) ?_
                  obtain ⟨⟨o_mz_21, o_mro_22⟩, hc_23, hf⟩ := obd hf
                  refine ct_V (As := [.int p1]) (rest := []) (wr := []) (wn := [(am, .inr (8, [.int th, .int mb, .ref mo, .int us, .int me, .int rc, .int (zb dn), .int lf, .int mw, .int mf, .ref m_p, .ref m_w, .ref m_l, .ref m_v, .int ms, .int mu, .long ml, .ref m_r, .int o_mz_21, .ref m_q])), (mo, .inl (y 4, 2, .inr (.inr (.inr (.inr (outr m1 m2)))))), (m1, .inl (y 0, nb, .inl c1)), (m2, .inl (y 0, nb, .inl c2)), (m_p, .inl (y 1, 121, .inl mpa)), (m_w, .inl (y 1, 121, .inl mwe)), (m_l, .inl (y 3, 121, .inl mli)), (m_v, .inl (y 2, 121, .inr (.inl mvo))), (m_r, .inl (y 0, 32, .inl o_mro_22)), (m_q, .inl (y 1, 260, .inl mpl))]) hfix (cX9_u2_ok l D y am mo m1 m2 m_p m_w m_l m_v m_r m_q nb th mb us me rc dn lf mw mf ms mu ml o_mz_18 c1 c2 mpa mwe mli mvo o_mro_19 mpl p1 _ hc_23) (cwV 1 hts gX9_aliquot_X9_u2 rfl rfl rfl (by decide +kernel) ⟨Nat.le_of_ble_eq_true rfl, Nat.le_of_ble_eq_true rfl⟩) E hP hD hS [0, 1, 2, 3, 4, 5, 6, 7, 8, 9] [] [0, 1, 2, 3, 4, 5, 6, 7, 8, 9] rfl rfl rfl rfl (by decide) rfl rfl 0 8 rfl rfl rfl hl.1 rfl (Nat.le_of_ble_eq_true rfl) dX9_aliquot_89 ⟨Nat.zero_le _, Nat.zero_le _⟩ (fun H locs hP hD hS => ?_)
                  refine W.eq (g2 := F0 m 92 ls []) rfl ?_
                  refine lv_aload_n hx hb dX9_aliquot_92 rfl (lv_at hl 0 rfl) ?_
                  refine lv_iload_n hx hb dX9_aliquot_93 rfl (lv_at hl 2 rfl) ?_
                  obtain ⟨⟨o_mz_24, o_mro_25⟩, hc_26, hf⟩ := obd hf
                  refine ct_V (As := [.int p2]) (rest := []) (wr := []) (wn := [(am, .inr (8, [.int th, .int mb, .ref mo, .int us, .int me, .int rc, .int (zb dn), .int lf, .int mw, .int mf, .ref m_p, .ref m_w, .ref m_l, .ref m_v, .int ms, .int mu, .long ml, .ref m_r, .int o_mz_24, .ref m_q])), (mo, .inl (y 4, 2, .inr (.inr (.inr (.inr (outr m1 m2)))))), (m1, .inl (y 0, nb, .inl c1)), (m2, .inl (y 0, nb, .inl c2)), (m_p, .inl (y 1, 121, .inl mpa)), (m_w, .inl (y 1, 121, .inl mwe)), (m_l, .inl (y 3, 121, .inl mli)), (m_v, .inl (y 2, 121, .inr (.inl mvo))), (m_r, .inl (y 0, 32, .inl o_mro_25)), (m_q, .inl (y 1, 260, .inl mpl))]) hfix (cX9_u1_ok l D y am mo m1 m2 m_p m_w m_l m_v m_r m_q nb th mb us me rc dn lf mw mf ms mu ml o_mz_21 c1 c2 mpa mwe mli mvo o_mro_22 mpl p2 _ hc_26) (cwV 1 hts gX9_aliquot_X9_u1 rfl rfl rfl (by decide +kernel) ⟨Nat.le_of_ble_eq_true rfl, Nat.le_of_ble_eq_true rfl⟩) E hP hD hS [0, 1, 2, 3, 4, 5, 6, 7, 8, 9] [] [0, 1, 2, 3, 4, 5, 6, 7, 8, 9] rfl rfl rfl rfl (by decide) rfl rfl 0 8 rfl rfl rfl hl.1 rfl (Nat.le_of_ble_eq_true rfl) dX9_aliquot_94 ⟨Nat.zero_le _, Nat.zero_le _⟩ (fun H locs hP hD hS => ?_)
                  refine W.eq (g2 := F0 m 97 ls []) rfl ?_
                  refine lv_aload_n hx hb dX9_aliquot_97 rfl (lv_at hl 0 rfl) ?_
                  refine lv_lload_n hx hb dX9_aliquot_98 rfl (lv_at hl 3 rfl) ?_
                  obtain ⟨⟨o_mz_27, o_mro_28⟩, hc_29, hf⟩ := obd hf
                  refine ct_V (As := [.long p3]) (rest := []) (wr := []) (wn := [(am, .inr (8, [.int th, .int mb, .ref mo, .int us, .int me, .int rc, .int (zb dn), .int lf, .int mw, .int mf, .ref m_p, .ref m_w, .ref m_l, .ref m_v, .int ms, .int mu, .long ml, .ref m_r, .int o_mz_27, .ref m_q])), (mo, .inl (y 4, 2, .inr (.inr (.inr (.inr (outr m1 m2)))))), (m1, .inl (y 0, nb, .inl c1)), (m2, .inl (y 0, nb, .inl c2)), (m_p, .inl (y 1, 121, .inl mpa)), (m_w, .inl (y 1, 121, .inl mwe)), (m_l, .inl (y 3, 121, .inl mli)), (m_v, .inl (y 2, 121, .inr (.inl mvo))), (m_r, .inl (y 0, 32, .inl o_mro_28)), (m_q, .inl (y 1, 260, .inl mpl))]) hfix (cX9_u8_ok l D y am mo m1 m2 m_p m_w m_l m_v m_r m_q nb th mb us me rc dn lf mw mf ms mu ml o_mz_24 c1 c2 mpa mwe mli mvo o_mro_25 mpl p3 _ hc_29) (cwV 1 hts gX9_aliquot_X9_u8 rfl rfl rfl (by decide +kernel) ⟨Nat.le_of_ble_eq_true rfl, Nat.le_of_ble_eq_true rfl⟩) E hP hD hS [0, 1, 2, 3, 4, 5, 6, 7, 8, 9] [] [0, 1, 2, 3, 4, 5, 6, 7, 8, 9] rfl rfl rfl rfl (by decide) rfl rfl 0 8 rfl rfl rfl hl.1 rfl (Nat.le_of_ble_eq_true rfl) dX9_aliquot_99 ⟨Nat.zero_le _, Nat.zero_le _⟩ (fun H locs hP hD hS => ?_)
                  refine W.eq (g2 := F0 m 102 ls []) rfl ?_
                  refine lv_aload_n hx hb dX9_aliquot_102 rfl (lv_at hl 0 rfl) ?_
                  obtain ⟨⟨r_30, o_me_31, o_rc_32, o_dn_33, o_lf_34, o_mw_35, o_mf_36, o_ms_37, o_mu_38, o_ml_39, o_mz_40, o_c1_41, o_c2_42, o_mpa_43, o_mwe_44, o_mli_45, o_mvo_46, o_mro_47, o_mpl_48⟩, hc_49, hf⟩ := obd hf
                  refine ct_V (As := []) (rest := []) (wr := []) (wn := [(am, .inr (8, [.int th, .int mb, .ref mo, .int us, .int o_me_31, .int o_rc_32, .int (zb o_dn_33), .int o_lf_34, .int o_mw_35, .int o_mf_36, .ref m_p, .ref m_w, .ref m_l, .ref m_v, .int o_ms_37, .int o_mu_38, .long o_ml_39, .ref m_r, .int o_mz_40, .ref m_q])), (mo, .inl (y 4, 2, .inr (.inr (.inr (.inr (outr m1 m2)))))), (m1, .inl (y 0, nb, .inl o_c1_41)), (m2, .inl (y 0, nb, .inl o_c2_42)), (m_p, .inl (y 1, 121, .inl o_mpa_43)), (m_w, .inl (y 1, 121, .inl o_mwe_44)), (m_l, .inl (y 3, 121, .inl o_mli_45)), (m_v, .inl (y 2, 121, .inr (.inl o_mvo_46))), (m_r, .inl (y 0, 32, .inl o_mro_47)), (m_q, .inl (y 1, 260, .inl o_mpl_48))]) hfix (cX9_acts_ok l D y am mo m1 m2 m_p m_w m_l m_v m_r m_q nb th mb us me rc dn lf mw mf ms mu ml o_mz_27 c1 c2 mpa mwe mli mvo o_mro_28 mpl _ hc_49) (cwV 0 hts gX9_aliquot_X9_acts rfl rfl rfl (by decide +kernel) ⟨Nat.le_of_ble_eq_true rfl, Nat.le_of_ble_eq_true rfl⟩) E hP hD hS [0, 1, 2, 3, 4, 5, 6, 7, 8, 9] [] [0, 1, 2, 3, 4, 5, 6, 7, 8, 9] rfl rfl rfl rfl (by decide) rfl rfl 0 8 rfl rfl rfl hl.1 rfl (Nat.le_of_ble_eq_true rfl) dX9_aliquot_103 ⟨Nat.zero_le _, Nat.zero_le _⟩ (fun H locs hP hD hS => ?_)
                  refine W.eq (g2 := F0 m 106 ls [.int (zb r_30)]) rfl ?_
                  refine lv_if_eq (tgt := 116) hx hb dX9_aliquot_106 (by decide) (fun c_50 => ?_) (fun c_50 => ?_)
                  · have hf := ifp hf c_50
                    refine lv_iconst (v := (-1 : Int32)) hx hb dX9_aliquot_116 (by decide) ?_
                    obtain rfl := Option.some.inj hf
                    exact W.iret hx hb hr (fun t ht hW => ⟨⟨(), rfl, by rw [ht]; exact hP, hD⟩, hS.F ht⟩) hS.2.2 dX9_aliquot_117
                  · have hf := ifn hf c_50
                    refine lv_aload_n hx hb dX9_aliquot_109 rfl (lv_at hl 0 rfl) ?_
                    refine va_get (D := D) (ci := 8) (v := .int o_ms_37) (C := RX9) (T := TX9) (N := 20) hx hb hts iX9 hown hK hP 0 rfl rfl 14 (by decide) (hts (.fieldLink RX9 115 "SampleTrackerModel" "samples" "I") (by decide +kernel)) (fun _ h9 => h9) rfl dX9_aliquot_110 ?_
                    refine lv_goto (tgt := 117) hx hb dX9_aliquot_113 (by decide) ?_
                    obtain rfl := Option.some.inj hf
                    exact W.iret hx hb hr (fun t ht hW => ⟨⟨(), rfl, by rw [ht]; exact hP, hD⟩, hS.F ht⟩) hS.2.2 dX9_aliquot_117
                · have hf := ifp hf c_17
                  refine lv_bipush (v := (-6 : Int32)) hx hb dX9_aliquot_79 (by decide) ?_
                  obtain rfl := Option.some.inj hf
                  exact W.iret hx hb hr (fun t ht hW => ⟨⟨(), rfl, by rw [ht]; exact hP, hD⟩, hS.F ht⟩) hS.2.2 dX9_aliquot_81
              · have hf := ifp hf c_14
                refine lv_bipush (v := (-5 : Int32)) hx hb dX9_aliquot_68 (by decide) ?_
                obtain rfl := Option.some.inj hf
                exact W.iret hx hb hr (fun t ht hW => ⟨⟨(), rfl, by rw [ht]; exact hP, hD⟩, hS.F ht⟩) hS.2.2 dX9_aliquot_70
            · have hf := ifn hf c_13
              refine lv_bipush (v := (-4 : Int32)) hx hb dX9_aliquot_56 (by decide) ?_
              obtain rfl := Option.some.inj hf
              exact W.iret hx hb hr (fun t ht hW => ⟨⟨(), rfl, by rw [ht]; exact hP, hD⟩, hS.F ht⟩) hS.2.2 dX9_aliquot_58
        · have hf := ifn hf c_10
          refine lv_bipush (v := (-3 : Int32)) hx hb dX9_aliquot_36 (by decide) ?_
          obtain rfl := Option.some.inj hf
          exact W.iret hx hb hr (fun t ht hW => ⟨⟨(), rfl, by rw [ht]; exact hP, hD⟩, hS.F ht⟩) hS.2.2 dX9_aliquot_38
      · have hf := ifp hf c_7
        refine lv_bipush (v := (-2 : Int32)) hx hb dX9_aliquot_24 (by decide) ?_
        obtain rfl := Option.some.inj hf
        exact W.iret hx hb hr (fun t ht hW => ⟨⟨(), rfl, by rw [ht]; exact hP, hD⟩, hS.F ht⟩) hS.2.2 dX9_aliquot_26
  · have hf := ifn hf c_1
    refine lv_iconst (v := (-1 : Int32)) hx hb dX9_aliquot_7 (by decide) ?_
    obtain rfl := Option.some.inj hf
    exact W.iret hx hb hr (fun t ht hW => ⟨⟨(), rfl, by rw [ht]; exact hP, hD⟩, hS.F ht⟩) hS.2.2 dX9_aliquot_8

def fX9_move (nb : Nat) (mb : Int32) (us : Int32) (me : Int32) (rc : Int32) (dn : Bool) (lf : Int32) (mw : Int32) (mf : Int32) (ms : Int32) (mu : Int32) (ml : Int64) (mz : Int32) (c1 : Nat → Int32) (c2 : Nat → Int32) (mpa : Nat → Int32) (mwe : Nat → Int32) (mli : Nat → Int32) (mvo : Nat → Int64) (mro : Nat → Int32) (mpl : Nat → Int32) (p1 : Int32) (p2 : Int32) : Option (Int32 × Int32 × Int32 × Bool × Int32 × Int32 × Int32 × Int32 × Int32 × Int64 × Int32 × (Nat → Int32) × (Nat → Int32) × (Nat → Int32) × (Nat → Int32) × (Nat → Int32) × (Nat → Int64) × (Nat → Int32) × (Nat → Int32)) := (if (zb dn) = 0 then ((fX9_isLive ms mli p1).bind fun r_2 => (if (zb r_2) = 0 then some ((-2 : Int32), me, rc, dn, lf, mw, mf, ms, mu, ml, mz, c1, c2, mpa, mwe, mli, mvo, mro, mpl) else ((fX9_isWell p2).bind fun r_5 => (if (zb r_5) = 0 then some ((-2 : Int32), me, rc, dn, lf, mw, mf, ms, mu, ml, mz, c1, c2, mpa, mwe, mli, mvo, mro, mpl) else ((fX9_liveIn ms mwe mli p2).bind fun r_8 => (if r_8 = (-1 : Int32) then ((fX9_hasRoom mb me (3 : Int32)).bind fun r_11 => (if (zb r_11) = 0 then some ((-6 : Int32), me, rc, dn, lf, mw, mf, ms, mu, ml, mz, c1, c2, mpa, mwe, mli, mvo, mro, mpl) else ((fX9_begin mro (3 : Int32)).bind fun (o_mz_14, o_mro_15) => ((fX9_u2 o_mz_14 o_mro_15 p1).bind fun (o_mz_17, o_mro_18) => ((fX9_u1 o_mz_17 o_mro_18 p2).bind fun (o_mz_20, o_mro_21) => ((fX9_acts nb mb us me rc dn lf mw mf ms mu ml o_mz_20 c1 c2 mpa mwe mli mvo o_mro_21 mpl).bind fun (r_23, o_me_24, o_rc_25, o_dn_26, o_lf_27, o_mw_28, o_mf_29, o_ms_30, o_mu_31, o_ml_32, o_mz_33, o_c1_34, o_c2_35, o_mpa_36, o_mwe_37, o_mli_38, o_mvo_39, o_mro_40, o_mpl_41) => (if (zb r_23) = 0 then some ((-1 : Int32), o_me_24, o_rc_25, o_dn_26, o_lf_27, o_mw_28, o_mf_29, o_ms_30, o_mu_31, o_ml_32, o_mz_33, o_c1_34, o_c2_35, o_mpa_36, o_mwe_37, o_mli_38, o_mvo_39, o_mro_40, o_mpl_41) else some ((0 : Int32), o_me_24, o_rc_25, o_dn_26, o_lf_27, o_mw_28, o_mf_29, o_ms_30, o_mu_31, o_ml_32, o_mz_33, o_c1_34, o_c2_35, o_mpa_36, o_mwe_37, o_mli_38, o_mvo_39, o_mro_40, o_mpl_41)))))))) else some ((-3 : Int32), me, rc, dn, lf, mw, mf, ms, mu, ml, mz, c1, c2, mpa, mwe, mli, mvo, mro, mpl))))))) else some ((-1 : Int32), me, rc, dn, lf, mw, mf, ms, mu, ml, mz, c1, c2, mpa, mwe, mli, mvo, mro, mpl))

set_option maxHeartbeats 4000000 in
set_option maxRecDepth 100000 in
theorem cX9_move_ok (l : Launch) (D : va_G) (y : Nat → ClassId) (am : Nat) (mo : Nat) (m1 : Nat) (m2 : Nat) (m_p : Nat) (m_w : Nat) (m_l : Nat) (m_v : Nat) (m_r : Nat) (m_q : Nat) (nb : Nat) (th : Int32) (mb : Int32) (us : Int32) (me : Int32) (rc : Int32) (dn : Bool) (lf : Int32) (mw : Int32) (mf : Int32) (ms : Int32) (mu : Int32) (ml : Int64) (mz : Int32) (c1 : Nat → Int32) (c2 : Nat → Int32) (mpa : Nat → Int32) (mwe : Nat → Int32) (mli : Nat → Int32) (mvo : Nat → Int64) (mro : Nat → Int32) (mpl : Nat → Int32) (p1 : Int32) (p2 : Int32) (res : Int32 × Int32 × Int32 × Bool × Int32 × Int32 × Int32 × Int32 × Int32 × Int64 × Int32 × (Nat → Int32) × (Nat → Int32) × (Nat → Int32) × (Nat → Int32) × (Nat → Int32) × (Nat → Int64) × (Nat → Int32) × (Nat → Int32)) (hf : fX9_move nb mb us me rc dn lf mw mf ms mu ml mz c1 c2 mpa mwe mli mvo mro mpl p1 p2 = some res) : CT l D y yX9_move wsX9_move ({ frames := 5, cells := 0, slots := 0, locals := 103 } : Room) [.ref am, .int p1, .int p2] [(am, .inr (8, [.int th, .int mb, .ref mo, .int us, .int me, .int rc, .int (zb dn), .int lf, .int mw, .int mf, .ref m_p, .ref m_w, .ref m_l, .ref m_v, .int ms, .int mu, .long ml, .ref m_r, .int mz, .ref m_q])), (mo, .inl (y 4, 2, .inr (.inr (.inr (.inr (outr m1 m2)))))), (m1, .inl (y 0, nb, .inl c1)), (m2, .inl (y 0, nb, .inl c2)), (m_p, .inl (y 1, 121, .inl mpa)), (m_w, .inl (y 1, 121, .inl mwe)), (m_l, .inl (y 3, 121, .inl mli)), (m_v, .inl (y 2, 121, .inr (.inl mvo))), (m_r, .inl (y 0, 32, .inl mro)), (m_q, .inl (y 1, 260, .inl mpl))] (some (.int res.1)) [(am, .inr (8, [.int th, .int mb, .ref mo, .int us, .int res.2.1, .int res.2.2.1, .int (zb res.2.2.2.1), .int res.2.2.2.2.1, .int res.2.2.2.2.2.1, .int res.2.2.2.2.2.2.1, .ref m_p, .ref m_w, .ref m_l, .ref m_v, .int res.2.2.2.2.2.2.2.1, .int res.2.2.2.2.2.2.2.2.1, .long res.2.2.2.2.2.2.2.2.2.1, .ref m_r, .int res.2.2.2.2.2.2.2.2.2.2.1, .ref m_q])), (mo, .inl (y 4, 2, .inr (.inr (.inr (.inr (outr m1 m2)))))), (m1, .inl (y 0, nb, .inl res.2.2.2.2.2.2.2.2.2.2.2.1)), (m2, .inl (y 0, nb, .inl res.2.2.2.2.2.2.2.2.2.2.2.2.1)), (m_p, .inl (y 1, 121, .inl res.2.2.2.2.2.2.2.2.2.2.2.2.2.1)), (m_w, .inl (y 1, 121, .inl res.2.2.2.2.2.2.2.2.2.2.2.2.2.2.1)), (m_l, .inl (y 3, 121, .inl res.2.2.2.2.2.2.2.2.2.2.2.2.2.2.2.1)), (m_v, .inl (y 2, 121, .inr (.inl res.2.2.2.2.2.2.2.2.2.2.2.2.2.2.2.2.1))), (m_r, .inl (y 0, 32, .inl res.2.2.2.2.2.2.2.2.2.2.2.2.2.2.2.2.2.1)), (m_q, .inl (y 1, 260, .inl res.2.2.2.2.2.2.2.2.2.2.2.2.2.2.2.2.2.2))] := by
  intro sz
  refine Met.ofW (cc := cX9_move) (maxL := 3) (ret := (some .int)) (by decide) rfl ?_
  intro p e s m args below meth c s₁ B hml hv
  obtain ⟨rfl, hsz, hP, hK, hD0, hst, hno⟩ := hv
  have hx := B.exec
  have hb := B.bytes
  have hr := B.returns
  have hts := atoms_spec (ws := wsX9_move) B.pre
  have hown : s.vm.findClass RX9 = some m.cls := findClass_of_methodNamed B.named
  have hlocks := B.notSynchronized
  subst hsz
  have hD := hD0.self (sz := s.heap.size)
  generalize hAe : va_A [(am, .inr (8, [.int th, .int mb, .ref mo, .int us, .int me, .int rc, .int (zb dn), .int lf, .int mw, .int mf, .ref m_p, .ref m_w, .ref m_l, .ref m_v, .int ms, .int mu, .long ml, .ref m_r, .int mz, .ref m_q])), (mo, .inl (y 4, 2, .inr (.inr (.inr (.inr (outr m1 m2)))))), (m1, .inl (y 0, nb, .inl c1)), (m2, .inl (y 0, nb, .inl c2)), (m_p, .inl (y 1, 121, .inl mpa)), (m_w, .inl (y 1, 121, .inl mwe)), (m_l, .inl (y 3, 121, .inl mli)), (m_v, .inl (y 2, 121, .inr (.inl mvo))), (m_r, .inl (y 0, 32, .inl mro)), (m_q, .inl (y 1, 260, .inl mpl))] s.heap.size = A at hD hst ⊢
  have hA : ∀ q : Nat, s.heap.size ≤ q → A q := fun q h => by rw [← hAe]; exact Or.inr h
  have hS : va_S A s.heap s.heap [] := va_S.rf
  have E : Ev D y A s := ⟨hK, hst, hno, hA⟩
  have hfix : CallFix p m c cX9_move 3 s _ wsX9_move RX9 := ⟨hx, hb, hml, hown, hts⟩
  have hP : va_P D vwCl [(am, .inr (8, [.int th, .int mb, .ref mo, .int us, .int me, .int rc, .int (zb dn), .int lf, .int mw, .int mf, .ref m_p, .ref m_w, .ref m_l, .ref m_v, .int ms, .int mu, .long ml, .ref m_r, .int mz, .ref m_q])), (mo, .inl (y 4, 2, .inr (.inr (.inr (.inr (outr m1 m2)))))), (m1, .inl (y 0, nb, .inl c1)), (m2, .inl (y 0, nb, .inl c2)), (m_p, .inl (y 1, 121, .inl mpa)), (m_w, .inl (y 1, 121, .inl mwe)), (m_l, .inl (y 3, 121, .inl mli)), (m_v, .inl (y 2, 121, .inr (.inl mvo))), (m_r, .inl (y 0, 32, .inl mro)), (m_q, .inl (y 1, 260, .inl mpl))] s.heap := hP
  have iX9 : ∀ w ∈ wsX90, w ∈ wsX9_move := by decide +kernel
  have hl := lv_entry ([.ref am, .int p1, .int p2]) (n := 3) (Nat.le_of_ble_eq_true rfl)
  rw [lg_entry_eq]
  generalize (lg_sl ([.ref am, .int p1, .int p2]) ++ List.replicate (3 - (lg_sl ([.ref am, .int p1, .int p2])).length) Slot.unset).toArray = ls at hl ⊢
  have hl : lv_has ls 3 [(0, .ref am), (1, .int p1), (2, .int p2)] := hl
  unfold fX9_move at hf
  refine lv_aload_n hx hb dX9_move_0 rfl (lv_at hl 0 rfl) ?_
  refine va_get (D := D) (ci := 8) (v := .int (zb dn)) (C := RX9) (T := TX9) (N := 20) hx hb hts iX9 hown hK hP 0 rfl rfl 6 (by decide) (hts (.fieldLink RX9 77 "SampleTrackerModel" "isDown" "Z") (by decide +kernel)) (fun _ h9 => h9) rfl dX9_move_1 ?_
  refine lv_if_eq (tgt := 9) hx hb dX9_move_4 (by decide) (fun c_1 => ?_) (fun c_1 => ?_)
  · have hf := ifp hf c_1
    refine lv_aload_n hx hb dX9_move_9 rfl (lv_at hl 0 rfl) ?_
    refine lv_iload_n hx hb dX9_move_10 rfl (lv_at hl 1 rfl) ?_
    obtain ⟨r_2, hc_3, hf⟩ := obd hf
    refine ct_V (As := [.int p1]) (rest := []) (wr := []) (wn := [(am, .inr (8, [.int th, .int mb, .ref mo, .int us, .int me, .int rc, .int (zb dn), .int lf, .int mw, .int mf, .ref m_p, .ref m_w, .ref m_l, .ref m_v, .int ms, .int mu, .long ml, .ref m_r, .int mz, .ref m_q])), (mo, .inl (y 4, 2, .inr (.inr (.inr (.inr (outr m1 m2)))))), (m1, .inl (y 0, nb, .inl c1)), (m2, .inl (y 0, nb, .inl c2)), (m_p, .inl (y 1, 121, .inl mpa)), (m_w, .inl (y 1, 121, .inl mwe)), (m_l, .inl (y 3, 121, .inl mli)), (m_v, .inl (y 2, 121, .inr (.inl mvo))), (m_r, .inl (y 0, 32, .inl mro)), (m_q, .inl (y 1, 260, .inl mpl))]) hfix (cX9_isLive_ok l D y am mo m1 m2 m_p m_w m_l m_v m_r m_q nb th mb us me rc dn lf mw mf ms mu ml mz c1 c2 mpa mwe mli mvo mro mpl p1 _ hc_3) (cwV 1 hts gX9_move_X9_isLive rfl rfl rfl (by decide +kernel) ⟨Nat.le_of_ble_eq_true rfl, Nat.le_of_ble_eq_true rfl⟩) E hP hD hS [0, 1, 2, 3, 4, 5, 6, 7, 8, 9] [] [0, 1, 2, 3, 4, 5, 6, 7, 8, 9] rfl rfl rfl rfl (by decide) rfl rfl 0 8 rfl rfl rfl hl.1 rfl (Nat.le_of_ble_eq_true rfl) dX9_move_11 ⟨Nat.zero_le _, Nat.zero_le _⟩ (fun H locs hP hD hS => ?_)
    refine W.eq (g2 := F0 m 14 ls [.int (zb r_2)]) rfl ?_
    refine lv_if_eq (tgt := 24) hx hb dX9_move_14 (by decide) (fun c_4 => ?_) (fun c_4 => ?_)
    · have hf := ifp hf c_4
      refine lv_bipush (v := (-2 : Int32)) hx hb dX9_move_24 (by decide) ?_
      obtain rfl := Option.some.inj hf
      exact W.iret hx hb hr (fun t ht hW => ⟨⟨(), rfl, by rw [ht]; exact hP, hD⟩, hS.F ht⟩) hS.2.2 dX9_move_26
    · have hf := ifn hf c_4
      refine lv_iload_n hx hb dX9_move_17 rfl (lv_at hl 2 rfl) ?_
      obtain ⟨r_5, hc_6, hf⟩ := obd hf
      refine ct_S (As := [.int p2]) (rest := []) (wr := [(am, .inr (8, [.int th, .int mb, .ref mo, .int us, .int me, .int rc, .int (zb dn), .int lf, .int mw, .int mf, .ref m_p, .ref m_w, .ref m_l, .ref m_v, .int ms, .int mu, .long ml, .ref m_r, .int mz, .ref m_q])), (mo, .inl (y 4, 2, .inr (.inr (.inr (.inr (outr m1 m2)))))), (m1, .inl (y 0, nb, .inl c1)), (m2, .inl (y 0, nb, .inl c2)), (m_p, .inl (y 1, 121, .inl mpa)), (m_w, .inl (y 1, 121, .inl mwe)), (m_l, .inl (y 3, 121, .inl mli)), (m_v, .inl (y 2, 121, .inr (.inl mvo))), (m_r, .inl (y 0, 32, .inl mro)), (m_q, .inl (y 1, 260, .inl mpl))]) (wn := [(am, .inr (8, [.int th, .int mb, .ref mo, .int us, .int me, .int rc, .int (zb dn), .int lf, .int mw, .int mf, .ref m_p, .ref m_w, .ref m_l, .ref m_v, .int ms, .int mu, .long ml, .ref m_r, .int mz, .ref m_q])), (mo, .inl (y 4, 2, .inr (.inr (.inr (.inr (outr m1 m2)))))), (m1, .inl (y 0, nb, .inl c1)), (m2, .inl (y 0, nb, .inl c2)), (m_p, .inl (y 1, 121, .inl mpa)), (m_w, .inl (y 1, 121, .inl mwe)), (m_l, .inl (y 3, 121, .inl mli)), (m_v, .inl (y 2, 121, .inr (.inl mvo))), (m_r, .inl (y 0, 32, .inl mro)), (m_q, .inl (y 1, 260, .inl mpl))]) hfix (cX9_isWell_ok l D y p2 _ hc_6) (va_cwS 1 hts gX9_move_X9_isWell rfl rfl rfl (by decide +kernel) ⟨Nat.le_of_ble_eq_true rfl, Nat.le_of_ble_eq_true rfl⟩) E hP hD hS [] [0, 1, 2, 3, 4, 5, 6, 7, 8, 9] [0, 1, 2, 3, 4, 5, 6, 7, 8, 9] rfl rfl rfl rfl (by decide) rfl rfl rfl hl.1 rfl (Nat.le_of_ble_eq_true rfl) dX9_move_18 ⟨Nat.zero_le _, Nat.zero_le _⟩ (fun H locs hP hD hS => ?_)
      refine W.eq (g2 := F0 m 21 ls [.int (zb r_5)]) rfl ?_
      refine lv_if_ne (tgt := 27) hx hb dX9_move_21 (by decide) (fun c_7 => ?_) (fun c_7 => ?_)
      · have hf := ifn hf c_7
        refine lv_aload_n hx hb dX9_move_27 rfl (lv_at hl 0 rfl) ?_
        refine lv_iload_n hx hb dX9_move_28 rfl (lv_at hl 2 rfl) ?_
        obtain ⟨r_8, hc_9, hf⟩ := obd hf
        refine ct_V (As := [.int p2]) (rest := []) (wr := []) (wn := [(am, .inr (8, [.int th, .int mb, .ref mo, .int us, .int me, .int rc, .int (zb dn), .int lf, .int mw, .int mf, .ref m_p, .ref m_w, .ref m_l, .ref m_v, .int ms, .int mu, .long ml, .ref m_r, .int mz, .ref m_q])), (mo, .inl (y 4, 2, .inr (.inr (.inr (.inr (outr m1 m2)))))), (m1, .inl (y 0, nb, .inl c1)), (m2, .inl (y 0, nb, .inl c2)), (m_p, .inl (y 1, 121, .inl mpa)), (m_w, .inl (y 1, 121, .inl mwe)), (m_l, .inl (y 3, 121, .inl mli)), (m_v, .inl (y 2, 121, .inr (.inl mvo))), (m_r, .inl (y 0, 32, .inl mro)), (m_q, .inl (y 1, 260, .inl mpl))]) hfix (cX9_liveIn_ok l D y am mo m1 m2 m_p m_w m_l m_v m_r m_q nb th mb us me rc dn lf mw mf ms mu ml mz c1 c2 mpa mwe mli mvo mro mpl p2 _ hc_9) (cwV 1 hts gX9_move_X9_liveIn rfl rfl rfl (by decide +kernel) ⟨Nat.le_of_ble_eq_true rfl, Nat.le_of_ble_eq_true rfl⟩) E hP hD hS [0, 1, 2, 3, 4, 5, 6, 7, 8, 9] [] [0, 1, 2, 3, 4, 5, 6, 7, 8, 9] rfl rfl rfl rfl (by decide) rfl rfl 0 8 rfl rfl rfl hl.1 rfl (Nat.le_of_ble_eq_true rfl) dX9_move_29 ⟨Nat.zero_le _, Nat.zero_le _⟩ (fun H locs hP hD hS => ?_)
        refine W.eq (g2 := F0 m 32 ls [.int r_8]) rfl ?_
        refine lv_iconst (v := (-1 : Int32)) hx hb dX9_move_32 (by decide) ?_
        refine lv_icmp_eq (tgt := 39) hx hb dX9_move_33 (by decide) (fun c_10 => ?_) (fun c_10 => ?_)
        · have hf := ifp hf c_10
          refine lv_aload_n hx hb dX9_move_39 rfl (lv_at hl 0 rfl) ?_
          refine lv_iconst (v := (3 : Int32)) hx hb dX9_move_40 (by decide) ?_
          obtain ⟨r_11, hc_12, hf⟩ := obd hf
          refine ct_V (As := [.int (3 : Int32)]) (rest := []) (wr := []) (wn := [(am, .inr (8, [.int th, .int mb, .ref mo, .int us, .int me, .int rc, .int (zb dn), .int lf, .int mw, .int mf, .ref m_p, .ref m_w, .ref m_l, .ref m_v, .int ms, .int mu, .long ml, .ref m_r, .int mz, .ref m_q])), (mo, .inl (y 4, 2, .inr (.inr (.inr (.inr (outr m1 m2)))))), (m1, .inl (y 0, nb, .inl c1)), (m2, .inl (y 0, nb, .inl c2)), (m_p, .inl (y 1, 121, .inl mpa)), (m_w, .inl (y 1, 121, .inl mwe)), (m_l, .inl (y 3, 121, .inl mli)), (m_v, .inl (y 2, 121, .inr (.inl mvo))), (m_r, .inl (y 0, 32, .inl mro)), (m_q, .inl (y 1, 260, .inl mpl))]) hfix (cX9_hasRoom_ok l D y am mo m1 m2 m_p m_w m_l m_v m_r m_q nb th mb us me rc dn lf mw mf ms mu ml mz c1 c2 mpa mwe mli mvo mro mpl (3 : Int32) _ hc_12) (cwV 1 hts gX9_move_X9_hasRoom rfl rfl rfl (by decide +kernel) ⟨Nat.le_of_ble_eq_true rfl, Nat.le_of_ble_eq_true rfl⟩) E hP hD hS [0, 1, 2, 3, 4, 5, 6, 7, 8, 9] [] [0, 1, 2, 3, 4, 5, 6, 7, 8, 9] rfl rfl rfl rfl (by decide) rfl rfl 0 8 rfl rfl rfl hl.1 rfl (Nat.le_of_ble_eq_true rfl) dX9_move_41 ⟨Nat.zero_le _, Nat.zero_le _⟩ (fun H locs hP hD hS => ?_)
          refine W.eq (g2 := F0 m 44 ls [.int (zb r_11)]) rfl ?_
          refine lv_if_ne (tgt := 50) hx hb dX9_move_44 (by decide) (fun c_13 => ?_) (fun c_13 => ?_)
          · have hf := ifn hf c_13
            refine lv_aload_n hx hb dX9_move_50 rfl (lv_at hl 0 rfl) ?_
            refine lv_iconst (v := (3 : Int32)) hx hb dX9_move_51 (by decide) ?_
            obtain ⟨⟨o_mz_14, o_mro_15⟩, hc_16, hf⟩ := obd hf
            refine ct_V (As := [.int (3 : Int32)]) (rest := []) (wr := []) (wn := [(am, .inr (8, [.int th, .int mb, .ref mo, .int us, .int me, .int rc, .int (zb dn), .int lf, .int mw, .int mf, .ref m_p, .ref m_w, .ref m_l, .ref m_v, .int ms, .int mu, .long ml, .ref m_r, .int o_mz_14, .ref m_q])), (mo, .inl (y 4, 2, .inr (.inr (.inr (.inr (outr m1 m2)))))), (m1, .inl (y 0, nb, .inl c1)), (m2, .inl (y 0, nb, .inl c2)), (m_p, .inl (y 1, 121, .inl mpa)), (m_w, .inl (y 1, 121, .inl mwe)), (m_l, .inl (y 3, 121, .inl mli)), (m_v, .inl (y 2, 121, .inr (.inl mvo))), (m_r, .inl (y 0, 32, .inl o_mro_15)), (m_q, .inl (y 1, 260, .inl mpl))]) hfix (cX9_begin_ok l D y am mo m1 m2 m_p m_w m_l m_v m_r m_q nb th mb us me rc dn lf mw mf ms mu ml mz c1 c2 mpa mwe mli mvo mro mpl (3 : Int32) _ hc_16) (cwV 1 hts gX9_move_X9_begin rfl rfl rfl (by decide +kernel) ⟨Nat.le_of_ble_eq_true rfl, Nat.le_of_ble_eq_true rfl⟩) E hP hD hS [0, 1, 2, 3, 4, 5, 6, 7, 8, 9] [] [0, 1, 2, 3, 4, 5, 6, 7, 8, 9] rfl rfl rfl rfl (by decide) rfl rfl 0 8 rfl rfl rfl hl.1 rfl (Nat.le_of_ble_eq_true rfl) dX9_move_52 ⟨Nat.zero_le _, Nat.zero_le _⟩ (fun H locs hP hD hS => ?_)
            refine W.eq (g2 := F0 m 55 ls []) rfl ?_
            refine lv_aload_n hx hb dX9_move_55 rfl (lv_at hl 0 rfl) ?_
            refine lv_iload_n hx hb dX9_move_56 rfl (lv_at hl 1 rfl) ?_
            obtain ⟨⟨o_mz_17, o_mro_18⟩, hc_19, hf⟩ := obd hf
            refine ct_V (As := [.int p1]) (rest := []) (wr := []) (wn := [(am, .inr (8, [.int th, .int mb, .ref mo, .int us, .int me, .int rc, .int (zb dn), .int lf, .int mw, .int mf, .ref m_p, .ref m_w, .ref m_l, .ref m_v, .int ms, .int mu, .long ml, .ref m_r, .int o_mz_17, .ref m_q])), (mo, .inl (y 4, 2, .inr (.inr (.inr (.inr (outr m1 m2)))))), (m1, .inl (y 0, nb, .inl c1)), (m2, .inl (y 0, nb, .inl c2)), (m_p, .inl (y 1, 121, .inl mpa)), (m_w, .inl (y 1, 121, .inl mwe)), (m_l, .inl (y 3, 121, .inl mli)), (m_v, .inl (y 2, 121, .inr (.inl mvo))), (m_r, .inl (y 0, 32, .inl o_mro_18)), (m_q, .inl (y 1, 260, .inl mpl))]) hfix (cX9_u2_ok l D y am mo m1 m2 m_p m_w m_l m_v m_r m_q nb th mb us me rc dn lf mw mf ms mu ml o_mz_14 c1 c2 mpa mwe mli mvo o_mro_15 mpl p1 _ hc_19) (cwV 1 hts gX9_move_X9_u2 rfl rfl rfl (by decide +kernel) ⟨Nat.le_of_ble_eq_true rfl, Nat.le_of_ble_eq_true rfl⟩) E hP hD hS [0, 1, 2, 3, 4, 5, 6, 7, 8, 9] [] [0, 1, 2, 3, 4, 5, 6, 7, 8, 9] rfl rfl rfl rfl (by decide) rfl rfl 0 8 rfl rfl rfl hl.1 rfl (Nat.le_of_ble_eq_true rfl) dX9_move_57 ⟨Nat.zero_le _, Nat.zero_le _⟩ (fun H locs hP hD hS => ?_)
            refine W.eq (g2 := F0 m 60 ls []) rfl ?_
            refine lv_aload_n hx hb dX9_move_60 rfl (lv_at hl 0 rfl) ?_
            refine lv_iload_n hx hb dX9_move_61 rfl (lv_at hl 2 rfl) ?_
            obtain ⟨⟨o_mz_20, o_mro_21⟩, hc_22, hf⟩ := obd hf
            refine ct_V (As := [.int p2]) (rest := []) (wr := []) (wn := [(am, .inr (8, [.int th, .int mb, .ref mo, .int us, .int me, .int rc, .int (zb dn), .int lf, .int mw, .int mf, .ref m_p, .ref m_w, .ref m_l, .ref m_v, .int ms, .int mu, .long ml, .ref m_r, .int o_mz_20, .ref m_q])), (mo, .inl (y 4, 2, .inr (.inr (.inr (.inr (outr m1 m2)))))), (m1, .inl (y 0, nb, .inl c1)), (m2, .inl (y 0, nb, .inl c2)), (m_p, .inl (y 1, 121, .inl mpa)), (m_w, .inl (y 1, 121, .inl mwe)), (m_l, .inl (y 3, 121, .inl mli)), (m_v, .inl (y 2, 121, .inr (.inl mvo))), (m_r, .inl (y 0, 32, .inl o_mro_21)), (m_q, .inl (y 1, 260, .inl mpl))]) hfix (cX9_u1_ok l D y am mo m1 m2 m_p m_w m_l m_v m_r m_q nb th mb us me rc dn lf mw mf ms mu ml o_mz_17 c1 c2 mpa mwe mli mvo o_mro_18 mpl p2 _ hc_22) (cwV 1 hts gX9_move_X9_u1 rfl rfl rfl (by decide +kernel) ⟨Nat.le_of_ble_eq_true rfl, Nat.le_of_ble_eq_true rfl⟩) E hP hD hS [0, 1, 2, 3, 4, 5, 6, 7, 8, 9] [] [0, 1, 2, 3, 4, 5, 6, 7, 8, 9] rfl rfl rfl rfl (by decide) rfl rfl 0 8 rfl rfl rfl hl.1 rfl (Nat.le_of_ble_eq_true rfl) dX9_move_62 ⟨Nat.zero_le _, Nat.zero_le _⟩ (fun H locs hP hD hS => ?_)
            refine W.eq (g2 := F0 m 65 ls []) rfl ?_
            refine lv_aload_n hx hb dX9_move_65 rfl (lv_at hl 0 rfl) ?_
            obtain ⟨⟨r_23, o_me_24, o_rc_25, o_dn_26, o_lf_27, o_mw_28, o_mf_29, o_ms_30, o_mu_31, o_ml_32, o_mz_33, o_c1_34, o_c2_35, o_mpa_36, o_mwe_37, o_mli_38, o_mvo_39, o_mro_40, o_mpl_41⟩, hc_42, hf⟩ := obd hf
            refine ct_V (As := []) (rest := []) (wr := []) (wn := [(am, .inr (8, [.int th, .int mb, .ref mo, .int us, .int o_me_24, .int o_rc_25, .int (zb o_dn_26), .int o_lf_27, .int o_mw_28, .int o_mf_29, .ref m_p, .ref m_w, .ref m_l, .ref m_v, .int o_ms_30, .int o_mu_31, .long o_ml_32, .ref m_r, .int o_mz_33, .ref m_q])), (mo, .inl (y 4, 2, .inr (.inr (.inr (.inr (outr m1 m2)))))), (m1, .inl (y 0, nb, .inl o_c1_34)), (m2, .inl (y 0, nb, .inl o_c2_35)), (m_p, .inl (y 1, 121, .inl o_mpa_36)), (m_w, .inl (y 1, 121, .inl o_mwe_37)), (m_l, .inl (y 3, 121, .inl o_mli_38)), (m_v, .inl (y 2, 121, .inr (.inl o_mvo_39))), (m_r, .inl (y 0, 32, .inl o_mro_40)), (m_q, .inl (y 1, 260, .inl o_mpl_41))]) hfix (cX9_acts_ok l D y am mo m1 m2 m_p m_w m_l m_v m_r m_q nb th mb us me rc dn lf mw mf ms mu ml o_mz_20 c1 c2 mpa mwe mli mvo o_mro_21 mpl _ hc_42) (cwV 0 hts gX9_move_X9_acts rfl rfl rfl (by decide +kernel) ⟨Nat.le_of_ble_eq_true rfl, Nat.le_of_ble_eq_true rfl⟩) E hP hD hS [0, 1, 2, 3, 4, 5, 6, 7, 8, 9] [] [0, 1, 2, 3, 4, 5, 6, 7, 8, 9] rfl rfl rfl rfl (by decide) rfl rfl 0 8 rfl rfl rfl hl.1 rfl (Nat.le_of_ble_eq_true rfl) dX9_move_66 ⟨Nat.zero_le _, Nat.zero_le _⟩ (fun H locs hP hD hS => ?_)
            refine W.eq (g2 := F0 m 69 ls [.int (zb r_23)]) rfl ?_
            refine lv_if_eq (tgt := 76) hx hb dX9_move_69 (by decide) (fun c_43 => ?_) (fun c_43 => ?_)
            · have hf := ifp hf c_43
              refine lv_iconst (v := (-1 : Int32)) hx hb dX9_move_76 (by decide) ?_
              obtain rfl := Option.some.inj hf
              exact W.iret hx hb hr (fun t ht hW => ⟨⟨(), rfl, by rw [ht]; exact hP, hD⟩, hS.F ht⟩) hS.2.2 dX9_move_77
            · have hf := ifn hf c_43
              refine lv_iconst (v := (0 : Int32)) hx hb dX9_move_72 (by decide) ?_
              refine lv_goto (tgt := 77) hx hb dX9_move_73 (by decide) ?_
              obtain rfl := Option.some.inj hf
              exact W.iret hx hb hr (fun t ht hW => ⟨⟨(), rfl, by rw [ht]; exact hP, hD⟩, hS.F ht⟩) hS.2.2 dX9_move_77
          · have hf := ifp hf c_13
            refine lv_bipush (v := (-6 : Int32)) hx hb dX9_move_47 (by decide) ?_
            obtain rfl := Option.some.inj hf
            exact W.iret hx hb hr (fun t ht hW => ⟨⟨(), rfl, by rw [ht]; exact hP, hD⟩, hS.F ht⟩) hS.2.2 dX9_move_49
        · have hf := ifn hf c_10
          refine lv_bipush (v := (-3 : Int32)) hx hb dX9_move_36 (by decide) ?_
          obtain rfl := Option.some.inj hf
          exact W.iret hx hb hr (fun t ht hW => ⟨⟨(), rfl, by rw [ht]; exact hP, hD⟩, hS.F ht⟩) hS.2.2 dX9_move_38
      · have hf := ifp hf c_7
        refine lv_bipush (v := (-2 : Int32)) hx hb dX9_move_24 (by decide) ?_
        obtain rfl := Option.some.inj hf
        exact W.iret hx hb hr (fun t ht hW => ⟨⟨(), rfl, by rw [ht]; exact hP, hD⟩, hS.F ht⟩) hS.2.2 dX9_move_26
  · have hf := ifn hf c_1
    refine lv_iconst (v := (-1 : Int32)) hx hb dX9_move_7 (by decide) ?_
    obtain rfl := Option.some.inj hf
    exact W.iret hx hb hr (fun t ht hW => ⟨⟨(), rfl, by rw [ht]; exact hP, hD⟩, hS.F ht⟩) hS.2.2 dX9_move_8

def fX9_discard (nb : Nat) (mb : Int32) (us : Int32) (me : Int32) (rc : Int32) (dn : Bool) (lf : Int32) (mw : Int32) (mf : Int32) (ms : Int32) (mu : Int32) (ml : Int64) (mz : Int32) (c1 : Nat → Int32) (c2 : Nat → Int32) (mpa : Nat → Int32) (mwe : Nat → Int32) (mli : Nat → Int32) (mvo : Nat → Int64) (mro : Nat → Int32) (mpl : Nat → Int32) (p1 : Int32) : Option (Int32 × Int32 × Int32 × Bool × Int32 × Int32 × Int32 × Int32 × Int32 × Int64 × Int32 × (Nat → Int32) × (Nat → Int32) × (Nat → Int32) × (Nat → Int32) × (Nat → Int32) × (Nat → Int64) × (Nat → Int32) × (Nat → Int32)) := (if (zb dn) = 0 then ((fX9_isLive ms mli p1).bind fun r_2 => (if (zb r_2) = 0 then some ((-2 : Int32), me, rc, dn, lf, mw, mf, ms, mu, ml, mz, c1, c2, mpa, mwe, mli, mvo, mro, mpl) else ((fX9_hasRoom mb me (4 : Int32)).bind fun r_5 => (if (zb r_5) = 0 then some ((-6 : Int32), me, rc, dn, lf, mw, mf, ms, mu, ml, mz, c1, c2, mpa, mwe, mli, mvo, mro, mpl) else ((fX9_begin mro (4 : Int32)).bind fun (o_mz_8, o_mro_9) => ((fX9_u2 o_mz_8 o_mro_9 p1).bind fun (o_mz_11, o_mro_12) => ((fX9_acts nb mb us me rc dn lf mw mf ms mu ml o_mz_11 c1 c2 mpa mwe mli mvo o_mro_12 mpl).bind fun (r_14, o_me_15, o_rc_16, o_dn_17, o_lf_18, o_mw_19, o_mf_20, o_ms_21, o_mu_22, o_ml_23, o_mz_24, o_c1_25, o_c2_26, o_mpa_27, o_mwe_28, o_mli_29, o_mvo_30, o_mro_31, o_mpl_32) => (if (zb r_14) = 0 then some ((-1 : Int32), o_me_15, o_rc_16, o_dn_17, o_lf_18, o_mw_19, o_mf_20, o_ms_21, o_mu_22, o_ml_23, o_mz_24, o_c1_25, o_c2_26, o_mpa_27, o_mwe_28, o_mli_29, o_mvo_30, o_mro_31, o_mpl_32) else some ((0 : Int32), o_me_15, o_rc_16, o_dn_17, o_lf_18, o_mw_19, o_mf_20, o_ms_21, o_mu_22, o_ml_23, o_mz_24, o_c1_25, o_c2_26, o_mpa_27, o_mwe_28, o_mli_29, o_mvo_30, o_mro_31, o_mpl_32))))))))) else some ((-1 : Int32), me, rc, dn, lf, mw, mf, ms, mu, ml, mz, c1, c2, mpa, mwe, mli, mvo, mro, mpl))

set_option maxHeartbeats 4000000 in
set_option maxRecDepth 100000 in
theorem cX9_discard_ok (l : Launch) (D : va_G) (y : Nat → ClassId) (am : Nat) (mo : Nat) (m1 : Nat) (m2 : Nat) (m_p : Nat) (m_w : Nat) (m_l : Nat) (m_v : Nat) (m_r : Nat) (m_q : Nat) (nb : Nat) (th : Int32) (mb : Int32) (us : Int32) (me : Int32) (rc : Int32) (dn : Bool) (lf : Int32) (mw : Int32) (mf : Int32) (ms : Int32) (mu : Int32) (ml : Int64) (mz : Int32) (c1 : Nat → Int32) (c2 : Nat → Int32) (mpa : Nat → Int32) (mwe : Nat → Int32) (mli : Nat → Int32) (mvo : Nat → Int64) (mro : Nat → Int32) (mpl : Nat → Int32) (p1 : Int32) (res : Int32 × Int32 × Int32 × Bool × Int32 × Int32 × Int32 × Int32 × Int32 × Int64 × Int32 × (Nat → Int32) × (Nat → Int32) × (Nat → Int32) × (Nat → Int32) × (Nat → Int32) × (Nat → Int64) × (Nat → Int32) × (Nat → Int32)) (hf : fX9_discard nb mb us me rc dn lf mw mf ms mu ml mz c1 c2 mpa mwe mli mvo mro mpl p1 = some res) : CT l D y yX9_discard wsX9_discard ({ frames := 5, cells := 0, slots := 0, locals := 103 } : Room) [.ref am, .int p1] [(am, .inr (8, [.int th, .int mb, .ref mo, .int us, .int me, .int rc, .int (zb dn), .int lf, .int mw, .int mf, .ref m_p, .ref m_w, .ref m_l, .ref m_v, .int ms, .int mu, .long ml, .ref m_r, .int mz, .ref m_q])), (mo, .inl (y 4, 2, .inr (.inr (.inr (.inr (outr m1 m2)))))), (m1, .inl (y 0, nb, .inl c1)), (m2, .inl (y 0, nb, .inl c2)), (m_p, .inl (y 1, 121, .inl mpa)), (m_w, .inl (y 1, 121, .inl mwe)), (m_l, .inl (y 3, 121, .inl mli)), (m_v, .inl (y 2, 121, .inr (.inl mvo))), (m_r, .inl (y 0, 32, .inl mro)), (m_q, .inl (y 1, 260, .inl mpl))] (some (.int res.1)) [(am, .inr (8, [.int th, .int mb, .ref mo, .int us, .int res.2.1, .int res.2.2.1, .int (zb res.2.2.2.1), .int res.2.2.2.2.1, .int res.2.2.2.2.2.1, .int res.2.2.2.2.2.2.1, .ref m_p, .ref m_w, .ref m_l, .ref m_v, .int res.2.2.2.2.2.2.2.1, .int res.2.2.2.2.2.2.2.2.1, .long res.2.2.2.2.2.2.2.2.2.1, .ref m_r, .int res.2.2.2.2.2.2.2.2.2.2.1, .ref m_q])), (mo, .inl (y 4, 2, .inr (.inr (.inr (.inr (outr m1 m2)))))), (m1, .inl (y 0, nb, .inl res.2.2.2.2.2.2.2.2.2.2.2.1)), (m2, .inl (y 0, nb, .inl res.2.2.2.2.2.2.2.2.2.2.2.2.1)), (m_p, .inl (y 1, 121, .inl res.2.2.2.2.2.2.2.2.2.2.2.2.2.1)), (m_w, .inl (y 1, 121, .inl res.2.2.2.2.2.2.2.2.2.2.2.2.2.2.1)), (m_l, .inl (y 3, 121, .inl res.2.2.2.2.2.2.2.2.2.2.2.2.2.2.2.1)), (m_v, .inl (y 2, 121, .inr (.inl res.2.2.2.2.2.2.2.2.2.2.2.2.2.2.2.2.1))), (m_r, .inl (y 0, 32, .inl res.2.2.2.2.2.2.2.2.2.2.2.2.2.2.2.2.2.1)), (m_q, .inl (y 1, 260, .inl res.2.2.2.2.2.2.2.2.2.2.2.2.2.2.2.2.2.2))] := by
  intro sz
  refine Met.ofW (cc := cX9_discard) (maxL := 2) (ret := (some .int)) (by decide) rfl ?_
  intro p e s m args below meth c s₁ B hml hv
  obtain ⟨rfl, hsz, hP, hK, hD0, hst, hno⟩ := hv
  have hx := B.exec
  have hb := B.bytes
  have hr := B.returns
  have hts := atoms_spec (ws := wsX9_discard) B.pre
  have hown : s.vm.findClass RX9 = some m.cls := findClass_of_methodNamed B.named
  have hlocks := B.notSynchronized
  subst hsz
  have hD := hD0.self (sz := s.heap.size)
  generalize hAe : va_A [(am, .inr (8, [.int th, .int mb, .ref mo, .int us, .int me, .int rc, .int (zb dn), .int lf, .int mw, .int mf, .ref m_p, .ref m_w, .ref m_l, .ref m_v, .int ms, .int mu, .long ml, .ref m_r, .int mz, .ref m_q])), (mo, .inl (y 4, 2, .inr (.inr (.inr (.inr (outr m1 m2)))))), (m1, .inl (y 0, nb, .inl c1)), (m2, .inl (y 0, nb, .inl c2)), (m_p, .inl (y 1, 121, .inl mpa)), (m_w, .inl (y 1, 121, .inl mwe)), (m_l, .inl (y 3, 121, .inl mli)), (m_v, .inl (y 2, 121, .inr (.inl mvo))), (m_r, .inl (y 0, 32, .inl mro)), (m_q, .inl (y 1, 260, .inl mpl))] s.heap.size = A at hD hst ⊢
  have hA : ∀ q : Nat, s.heap.size ≤ q → A q := fun q h => by rw [← hAe]; exact Or.inr h
  have hS : va_S A s.heap s.heap [] := va_S.rf
  have E : Ev D y A s := ⟨hK, hst, hno, hA⟩
  have hfix : CallFix p m c cX9_discard 2 s _ wsX9_discard RX9 := ⟨hx, hb, hml, hown, hts⟩
  have hP : va_P D vwCl [(am, .inr (8, [.int th, .int mb, .ref mo, .int us, .int me, .int rc, .int (zb dn), .int lf, .int mw, .int mf, .ref m_p, .ref m_w, .ref m_l, .ref m_v, .int ms, .int mu, .long ml, .ref m_r, .int mz, .ref m_q])), (mo, .inl (y 4, 2, .inr (.inr (.inr (.inr (outr m1 m2)))))), (m1, .inl (y 0, nb, .inl c1)), (m2, .inl (y 0, nb, .inl c2)), (m_p, .inl (y 1, 121, .inl mpa)), (m_w, .inl (y 1, 121, .inl mwe)), (m_l, .inl (y 3, 121, .inl mli)), (m_v, .inl (y 2, 121, .inr (.inl mvo))), (m_r, .inl (y 0, 32, .inl mro)), (m_q, .inl (y 1, 260, .inl mpl))] s.heap := hP
  have iX9 : ∀ w ∈ wsX90, w ∈ wsX9_discard := by decide +kernel
  have hl := lv_entry ([.ref am, .int p1]) (n := 2) (Nat.le_of_ble_eq_true rfl)
  rw [lg_entry_eq]
  generalize (lg_sl ([.ref am, .int p1]) ++ List.replicate (2 - (lg_sl ([.ref am, .int p1])).length) Slot.unset).toArray = ls at hl ⊢
  have hl : lv_has ls 2 [(0, .ref am), (1, .int p1)] := hl
  unfold fX9_discard at hf
  refine lv_aload_n hx hb dX9_discard_0 rfl (lv_at hl 0 rfl) ?_
  refine va_get (D := D) (ci := 8) (v := .int (zb dn)) (C := RX9) (T := TX9) (N := 20) hx hb hts iX9 hown hK hP 0 rfl rfl 6 (by decide) (hts (.fieldLink RX9 77 "SampleTrackerModel" "isDown" "Z") (by decide +kernel)) (fun _ h9 => h9) rfl dX9_discard_1 ?_
  refine lv_if_eq (tgt := 9) hx hb dX9_discard_4 (by decide) (fun c_1 => ?_) (fun c_1 => ?_)
  · have hf := ifp hf c_1
    refine lv_aload_n hx hb dX9_discard_9 rfl (lv_at hl 0 rfl) ?_
    refine lv_iload_n hx hb dX9_discard_10 rfl (lv_at hl 1 rfl) ?_
    obtain ⟨r_2, hc_3, hf⟩ := obd hf
    refine ct_V (As := [.int p1]) (rest := []) (wr := []) (wn := [(am, .inr (8, [.int th, .int mb, .ref mo, .int us, .int me, .int rc, .int (zb dn), .int lf, .int mw, .int mf, .ref m_p, .ref m_w, .ref m_l, .ref m_v, .int ms, .int mu, .long ml, .ref m_r, .int mz, .ref m_q])), (mo, .inl (y 4, 2, .inr (.inr (.inr (.inr (outr m1 m2)))))), (m1, .inl (y 0, nb, .inl c1)), (m2, .inl (y 0, nb, .inl c2)), (m_p, .inl (y 1, 121, .inl mpa)), (m_w, .inl (y 1, 121, .inl mwe)), (m_l, .inl (y 3, 121, .inl mli)), (m_v, .inl (y 2, 121, .inr (.inl mvo))), (m_r, .inl (y 0, 32, .inl mro)), (m_q, .inl (y 1, 260, .inl mpl))]) hfix (cX9_isLive_ok l D y am mo m1 m2 m_p m_w m_l m_v m_r m_q nb th mb us me rc dn lf mw mf ms mu ml mz c1 c2 mpa mwe mli mvo mro mpl p1 _ hc_3) (cwV 1 hts gX9_discard_X9_isLive rfl rfl rfl (by decide +kernel) ⟨Nat.le_of_ble_eq_true rfl, Nat.le_of_ble_eq_true rfl⟩) E hP hD hS [0, 1, 2, 3, 4, 5, 6, 7, 8, 9] [] [0, 1, 2, 3, 4, 5, 6, 7, 8, 9] rfl rfl rfl rfl (by decide) rfl rfl 0 8 rfl rfl rfl hl.1 rfl (Nat.le_of_ble_eq_true rfl) dX9_discard_11 ⟨Nat.zero_le _, Nat.zero_le _⟩ (fun H locs hP hD hS => ?_)
    refine W.eq (g2 := F0 m 14 ls [.int (zb r_2)]) rfl ?_
    refine lv_if_ne (tgt := 20) hx hb dX9_discard_14 (by decide) (fun c_4 => ?_) (fun c_4 => ?_)
    · have hf := ifn hf c_4
      refine lv_aload_n hx hb dX9_discard_20 rfl (lv_at hl 0 rfl) ?_
      refine lv_iconst (v := (4 : Int32)) hx hb dX9_discard_21 (by decide) ?_
      obtain ⟨r_5, hc_6, hf⟩ := obd hf
      refine ct_V (As := [.int (4 : Int32)]) (rest := []) (wr := []) (wn := [(am, .inr (8, [.int th, .int mb, .ref mo, .int us, .int me, .int rc, .int (zb dn), .int lf, .int mw, .int mf, .ref m_p, .ref m_w, .ref m_l, .ref m_v, .int ms, .int mu, .long ml, .ref m_r, .int mz, .ref m_q])), (mo, .inl (y 4, 2, .inr (.inr (.inr (.inr (outr m1 m2)))))), (m1, .inl (y 0, nb, .inl c1)), (m2, .inl (y 0, nb, .inl c2)), (m_p, .inl (y 1, 121, .inl mpa)), (m_w, .inl (y 1, 121, .inl mwe)), (m_l, .inl (y 3, 121, .inl mli)), (m_v, .inl (y 2, 121, .inr (.inl mvo))), (m_r, .inl (y 0, 32, .inl mro)), (m_q, .inl (y 1, 260, .inl mpl))]) hfix (cX9_hasRoom_ok l D y am mo m1 m2 m_p m_w m_l m_v m_r m_q nb th mb us me rc dn lf mw mf ms mu ml mz c1 c2 mpa mwe mli mvo mro mpl (4 : Int32) _ hc_6) (cwV 1 hts gX9_discard_X9_hasRoom rfl rfl rfl (by decide +kernel) ⟨Nat.le_of_ble_eq_true rfl, Nat.le_of_ble_eq_true rfl⟩) E hP hD hS [0, 1, 2, 3, 4, 5, 6, 7, 8, 9] [] [0, 1, 2, 3, 4, 5, 6, 7, 8, 9] rfl rfl rfl rfl (by decide) rfl rfl 0 8 rfl rfl rfl hl.1 rfl (Nat.le_of_ble_eq_true rfl) dX9_discard_22 ⟨Nat.zero_le _, Nat.zero_le _⟩ (fun H locs hP hD hS => ?_)
      refine W.eq (g2 := F0 m 25 ls [.int (zb r_5)]) rfl ?_
      refine lv_if_ne (tgt := 31) hx hb dX9_discard_25 (by decide) (fun c_7 => ?_) (fun c_7 => ?_)
      · have hf := ifn hf c_7
        refine lv_aload_n hx hb dX9_discard_31 rfl (lv_at hl 0 rfl) ?_
        refine lv_iconst (v := (4 : Int32)) hx hb dX9_discard_32 (by decide) ?_
        obtain ⟨⟨o_mz_8, o_mro_9⟩, hc_10, hf⟩ := obd hf
        refine ct_V (As := [.int (4 : Int32)]) (rest := []) (wr := []) (wn := [(am, .inr (8, [.int th, .int mb, .ref mo, .int us, .int me, .int rc, .int (zb dn), .int lf, .int mw, .int mf, .ref m_p, .ref m_w, .ref m_l, .ref m_v, .int ms, .int mu, .long ml, .ref m_r, .int o_mz_8, .ref m_q])), (mo, .inl (y 4, 2, .inr (.inr (.inr (.inr (outr m1 m2)))))), (m1, .inl (y 0, nb, .inl c1)), (m2, .inl (y 0, nb, .inl c2)), (m_p, .inl (y 1, 121, .inl mpa)), (m_w, .inl (y 1, 121, .inl mwe)), (m_l, .inl (y 3, 121, .inl mli)), (m_v, .inl (y 2, 121, .inr (.inl mvo))), (m_r, .inl (y 0, 32, .inl o_mro_9)), (m_q, .inl (y 1, 260, .inl mpl))]) hfix (cX9_begin_ok l D y am mo m1 m2 m_p m_w m_l m_v m_r m_q nb th mb us me rc dn lf mw mf ms mu ml mz c1 c2 mpa mwe mli mvo mro mpl (4 : Int32) _ hc_10) (cwV 1 hts gX9_discard_X9_begin rfl rfl rfl (by decide +kernel) ⟨Nat.le_of_ble_eq_true rfl, Nat.le_of_ble_eq_true rfl⟩) E hP hD hS [0, 1, 2, 3, 4, 5, 6, 7, 8, 9] [] [0, 1, 2, 3, 4, 5, 6, 7, 8, 9] rfl rfl rfl rfl (by decide) rfl rfl 0 8 rfl rfl rfl hl.1 rfl (Nat.le_of_ble_eq_true rfl) dX9_discard_33 ⟨Nat.zero_le _, Nat.zero_le _⟩ (fun H locs hP hD hS => ?_)
        refine W.eq (g2 := F0 m 36 ls []) rfl ?_
        refine lv_aload_n hx hb dX9_discard_36 rfl (lv_at hl 0 rfl) ?_
        refine lv_iload_n hx hb dX9_discard_37 rfl (lv_at hl 1 rfl) ?_
        obtain ⟨⟨o_mz_11, o_mro_12⟩, hc_13, hf⟩ := obd hf
        refine ct_V (As := [.int p1]) (rest := []) (wr := []) (wn := [(am, .inr (8, [.int th, .int mb, .ref mo, .int us, .int me, .int rc, .int (zb dn), .int lf, .int mw, .int mf, .ref m_p, .ref m_w, .ref m_l, .ref m_v, .int ms, .int mu, .long ml, .ref m_r, .int o_mz_11, .ref m_q])), (mo, .inl (y 4, 2, .inr (.inr (.inr (.inr (outr m1 m2)))))), (m1, .inl (y 0, nb, .inl c1)), (m2, .inl (y 0, nb, .inl c2)), (m_p, .inl (y 1, 121, .inl mpa)), (m_w, .inl (y 1, 121, .inl mwe)), (m_l, .inl (y 3, 121, .inl mli)), (m_v, .inl (y 2, 121, .inr (.inl mvo))), (m_r, .inl (y 0, 32, .inl o_mro_12)), (m_q, .inl (y 1, 260, .inl mpl))]) hfix (cX9_u2_ok l D y am mo m1 m2 m_p m_w m_l m_v m_r m_q nb th mb us me rc dn lf mw mf ms mu ml o_mz_8 c1 c2 mpa mwe mli mvo o_mro_9 mpl p1 _ hc_13) (cwV 1 hts gX9_discard_X9_u2 rfl rfl rfl (by decide +kernel) ⟨Nat.le_of_ble_eq_true rfl, Nat.le_of_ble_eq_true rfl⟩) E hP hD hS [0, 1, 2, 3, 4, 5, 6, 7, 8, 9] [] [0, 1, 2, 3, 4, 5, 6, 7, 8, 9] rfl rfl rfl rfl (by decide) rfl rfl 0 8 rfl rfl rfl hl.1 rfl (Nat.le_of_ble_eq_true rfl) dX9_discard_38 ⟨Nat.zero_le _, Nat.zero_le _⟩ (fun H locs hP hD hS => ?_)
        refine W.eq (g2 := F0 m 41 ls []) rfl ?_
        refine lv_aload_n hx hb dX9_discard_41 rfl (lv_at hl 0 rfl) ?_
        obtain ⟨⟨r_14, o_me_15, o_rc_16, o_dn_17, o_lf_18, o_mw_19, o_mf_20, o_ms_21, o_mu_22, o_ml_23, o_mz_24, o_c1_25, o_c2_26, o_mpa_27, o_mwe_28, o_mli_29, o_mvo_30, o_mro_31, o_mpl_32⟩, hc_33, hf⟩ := obd hf
        refine ct_V (As := []) (rest := []) (wr := []) (wn := [(am, .inr (8, [.int th, .int mb, .ref mo, .int us, .int o_me_15, .int o_rc_16, .int (zb o_dn_17), .int o_lf_18, .int o_mw_19, .int o_mf_20, .ref m_p, .ref m_w, .ref m_l, .ref m_v, .int o_ms_21, .int o_mu_22, .long o_ml_23, .ref m_r, .int o_mz_24, .ref m_q])), (mo, .inl (y 4, 2, .inr (.inr (.inr (.inr (outr m1 m2)))))), (m1, .inl (y 0, nb, .inl o_c1_25)), (m2, .inl (y 0, nb, .inl o_c2_26)), (m_p, .inl (y 1, 121, .inl o_mpa_27)), (m_w, .inl (y 1, 121, .inl o_mwe_28)), (m_l, .inl (y 3, 121, .inl o_mli_29)), (m_v, .inl (y 2, 121, .inr (.inl o_mvo_30))), (m_r, .inl (y 0, 32, .inl o_mro_31)), (m_q, .inl (y 1, 260, .inl o_mpl_32))]) hfix (cX9_acts_ok l D y am mo m1 m2 m_p m_w m_l m_v m_r m_q nb th mb us me rc dn lf mw mf ms mu ml o_mz_11 c1 c2 mpa mwe mli mvo o_mro_12 mpl _ hc_33) (cwV 0 hts gX9_discard_X9_acts rfl rfl rfl (by decide +kernel) ⟨Nat.le_of_ble_eq_true rfl, Nat.le_of_ble_eq_true rfl⟩) E hP hD hS [0, 1, 2, 3, 4, 5, 6, 7, 8, 9] [] [0, 1, 2, 3, 4, 5, 6, 7, 8, 9] rfl rfl rfl rfl (by decide) rfl rfl 0 8 rfl rfl rfl hl.1 rfl (Nat.le_of_ble_eq_true rfl) dX9_discard_42 ⟨Nat.zero_le _, Nat.zero_le _⟩ (fun H locs hP hD hS => ?_)
        refine W.eq (g2 := F0 m 45 ls [.int (zb r_14)]) rfl ?_
        refine lv_if_eq (tgt := 52) hx hb dX9_discard_45 (by decide) (fun c_34 => ?_) (fun c_34 => ?_)
        · have hf := ifp hf c_34
          refine lv_iconst (v := (-1 : Int32)) hx hb dX9_discard_52 (by decide) ?_
          obtain rfl := Option.some.inj hf
          exact W.iret hx hb hr (fun t ht hW => ⟨⟨(), rfl, by rw [ht]; exact hP, hD⟩, hS.F ht⟩) hS.2.2 dX9_discard_53
        · have hf := ifn hf c_34
          refine lv_iconst (v := (0 : Int32)) hx hb dX9_discard_48 (by decide) ?_
          refine lv_goto (tgt := 53) hx hb dX9_discard_49 (by decide) ?_
          obtain rfl := Option.some.inj hf
          exact W.iret hx hb hr (fun t ht hW => ⟨⟨(), rfl, by rw [ht]; exact hP, hD⟩, hS.F ht⟩) hS.2.2 dX9_discard_53
      · have hf := ifp hf c_7
        refine lv_bipush (v := (-6 : Int32)) hx hb dX9_discard_28 (by decide) ?_
        obtain rfl := Option.some.inj hf
        exact W.iret hx hb hr (fun t ht hW => ⟨⟨(), rfl, by rw [ht]; exact hP, hD⟩, hS.F ht⟩) hS.2.2 dX9_discard_30
    · have hf := ifp hf c_4
      refine lv_bipush (v := (-2 : Int32)) hx hb dX9_discard_17 (by decide) ?_
      obtain rfl := Option.some.inj hf
      exact W.iret hx hb hr (fun t ht hW => ⟨⟨(), rfl, by rw [ht]; exact hP, hD⟩, hS.F ht⟩) hS.2.2 dX9_discard_19
  · have hf := ifn hf c_1
    refine lv_iconst (v := (-1 : Int32)) hx hb dX9_discard_7 (by decide) ?_
    obtain rfl := Option.some.inj hf
    exact W.iret hx hb hr (fun t ht hW => ⟨⟨(), rfl, by rw [ht]; exact hP, hD⟩, hS.F ht⟩) hS.2.2 dX9_discard_8

def fX9_undo (nb : Nat) (mb : Int32) (us : Int32) (me : Int32) (rc : Int32) (dn : Bool) (lf : Int32) (mw : Int32) (mf : Int32) (ms : Int32) (mu : Int32) (ml : Int64) (mz : Int32) (c1 : Nat → Int32) (c2 : Nat → Int32) (mpa : Nat → Int32) (mwe : Nat → Int32) (mli : Nat → Int32) (mvo : Nat → Int64) (mro : Nat → Int32) (mpl : Nat → Int32) : Option (Int32 × Int32 × Int32 × Bool × Int32 × Int32 × Int32 × Int32 × Int32 × Int64 × Int32 × (Nat → Int32) × (Nat → Int32) × (Nat → Int32) × (Nat → Int32) × (Nat → Int32) × (Nat → Int64) × (Nat → Int32) × (Nat → Int32)) := (if (zb dn) = 0 then ((fX9_hasRoom mb me (5 : Int32)).bind fun r_2 => (if (zb r_2) = 0 then some ((-6 : Int32), me, rc, dn, lf, mw, mf, ms, mu, ml, mz, c1, c2, mpa, mwe, mli, mvo, mro, mpl) else (if mu = 0 then some ((-7 : Int32), me, rc, dn, lf, mw, mf, ms, mu, ml, mz, c1, c2, mpa, mwe, mli, mvo, mro, mpl) else ((fX9_begin mro (5 : Int32)).bind fun (o_mz_6, o_mro_7) => ((fX9_acts nb mb us me rc dn lf mw mf ms mu ml o_mz_6 c1 c2 mpa mwe mli mvo o_mro_7 mpl).bind fun (r_9, o_me_10, o_rc_11, o_dn_12, o_lf_13, o_mw_14, o_mf_15, o_ms_16, o_mu_17, o_ml_18, o_mz_19, o_c1_20, o_c2_21, o_mpa_22, o_mwe_23, o_mli_24, o_mvo_25, o_mro_26, o_mpl_27) => (if (zb r_9) = 0 then some ((-1 : Int32), o_me_10, o_rc_11, o_dn_12, o_lf_13, o_mw_14, o_mf_15, o_ms_16, o_mu_17, o_ml_18, o_mz_19, o_c1_20, o_c2_21, o_mpa_22, o_mwe_23, o_mli_24, o_mvo_25, o_mro_26, o_mpl_27) else some (o_mu_17, o_me_10, o_rc_11, o_dn_12, o_lf_13, o_mw_14, o_mf_15, o_ms_16, o_mu_17, o_ml_18, o_mz_19, o_c1_20, o_c2_21, o_mpa_22, o_mwe_23, o_mli_24, o_mvo_25, o_mro_26, o_mpl_27))))))) else some ((-1 : Int32), me, rc, dn, lf, mw, mf, ms, mu, ml, mz, c1, c2, mpa, mwe, mli, mvo, mro, mpl))

set_option maxHeartbeats 4000000 in
set_option maxRecDepth 100000 in
theorem cX9_undo_ok (l : Launch) (D : va_G) (y : Nat → ClassId) (am : Nat) (mo : Nat) (m1 : Nat) (m2 : Nat) (m_p : Nat) (m_w : Nat) (m_l : Nat) (m_v : Nat) (m_r : Nat) (m_q : Nat) (nb : Nat) (th : Int32) (mb : Int32) (us : Int32) (me : Int32) (rc : Int32) (dn : Bool) (lf : Int32) (mw : Int32) (mf : Int32) (ms : Int32) (mu : Int32) (ml : Int64) (mz : Int32) (c1 : Nat → Int32) (c2 : Nat → Int32) (mpa : Nat → Int32) (mwe : Nat → Int32) (mli : Nat → Int32) (mvo : Nat → Int64) (mro : Nat → Int32) (mpl : Nat → Int32) (res : Int32 × Int32 × Int32 × Bool × Int32 × Int32 × Int32 × Int32 × Int32 × Int64 × Int32 × (Nat → Int32) × (Nat → Int32) × (Nat → Int32) × (Nat → Int32) × (Nat → Int32) × (Nat → Int64) × (Nat → Int32) × (Nat → Int32)) (hf : fX9_undo nb mb us me rc dn lf mw mf ms mu ml mz c1 c2 mpa mwe mli mvo mro mpl = some res) : CT l D y yX9_undo wsX9_undo ({ frames := 5, cells := 0, slots := 0, locals := 103 } : Room) [.ref am] [(am, .inr (8, [.int th, .int mb, .ref mo, .int us, .int me, .int rc, .int (zb dn), .int lf, .int mw, .int mf, .ref m_p, .ref m_w, .ref m_l, .ref m_v, .int ms, .int mu, .long ml, .ref m_r, .int mz, .ref m_q])), (mo, .inl (y 4, 2, .inr (.inr (.inr (.inr (outr m1 m2)))))), (m1, .inl (y 0, nb, .inl c1)), (m2, .inl (y 0, nb, .inl c2)), (m_p, .inl (y 1, 121, .inl mpa)), (m_w, .inl (y 1, 121, .inl mwe)), (m_l, .inl (y 3, 121, .inl mli)), (m_v, .inl (y 2, 121, .inr (.inl mvo))), (m_r, .inl (y 0, 32, .inl mro)), (m_q, .inl (y 1, 260, .inl mpl))] (some (.int res.1)) [(am, .inr (8, [.int th, .int mb, .ref mo, .int us, .int res.2.1, .int res.2.2.1, .int (zb res.2.2.2.1), .int res.2.2.2.2.1, .int res.2.2.2.2.2.1, .int res.2.2.2.2.2.2.1, .ref m_p, .ref m_w, .ref m_l, .ref m_v, .int res.2.2.2.2.2.2.2.1, .int res.2.2.2.2.2.2.2.2.1, .long res.2.2.2.2.2.2.2.2.2.1, .ref m_r, .int res.2.2.2.2.2.2.2.2.2.2.1, .ref m_q])), (mo, .inl (y 4, 2, .inr (.inr (.inr (.inr (outr m1 m2)))))), (m1, .inl (y 0, nb, .inl res.2.2.2.2.2.2.2.2.2.2.2.1)), (m2, .inl (y 0, nb, .inl res.2.2.2.2.2.2.2.2.2.2.2.2.1)), (m_p, .inl (y 1, 121, .inl res.2.2.2.2.2.2.2.2.2.2.2.2.2.1)), (m_w, .inl (y 1, 121, .inl res.2.2.2.2.2.2.2.2.2.2.2.2.2.2.1)), (m_l, .inl (y 3, 121, .inl res.2.2.2.2.2.2.2.2.2.2.2.2.2.2.2.1)), (m_v, .inl (y 2, 121, .inr (.inl res.2.2.2.2.2.2.2.2.2.2.2.2.2.2.2.2.1))), (m_r, .inl (y 0, 32, .inl res.2.2.2.2.2.2.2.2.2.2.2.2.2.2.2.2.2.1)), (m_q, .inl (y 1, 260, .inl res.2.2.2.2.2.2.2.2.2.2.2.2.2.2.2.2.2.2))] := by
  intro sz
  refine Met.ofW (cc := cX9_undo) (maxL := 1) (ret := (some .int)) (by decide) rfl ?_
  intro p e s m args below meth c s₁ B hml hv
  obtain ⟨rfl, hsz, hP, hK, hD0, hst, hno⟩ := hv
  have hx := B.exec
  have hb := B.bytes
  have hr := B.returns
  have hts := atoms_spec (ws := wsX9_undo) B.pre
  have hown : s.vm.findClass RX9 = some m.cls := findClass_of_methodNamed B.named
  have hlocks := B.notSynchronized
  subst hsz
  have hD := hD0.self (sz := s.heap.size)
  generalize hAe : va_A [(am, .inr (8, [.int th, .int mb, .ref mo, .int us, .int me, .int rc, .int (zb dn), .int lf, .int mw, .int mf, .ref m_p, .ref m_w, .ref m_l, .ref m_v, .int ms, .int mu, .long ml, .ref m_r, .int mz, .ref m_q])), (mo, .inl (y 4, 2, .inr (.inr (.inr (.inr (outr m1 m2)))))), (m1, .inl (y 0, nb, .inl c1)), (m2, .inl (y 0, nb, .inl c2)), (m_p, .inl (y 1, 121, .inl mpa)), (m_w, .inl (y 1, 121, .inl mwe)), (m_l, .inl (y 3, 121, .inl mli)), (m_v, .inl (y 2, 121, .inr (.inl mvo))), (m_r, .inl (y 0, 32, .inl mro)), (m_q, .inl (y 1, 260, .inl mpl))] s.heap.size = A at hD hst ⊢
  have hA : ∀ q : Nat, s.heap.size ≤ q → A q := fun q h => by rw [← hAe]; exact Or.inr h
  have hS : va_S A s.heap s.heap [] := va_S.rf
  have E : Ev D y A s := ⟨hK, hst, hno, hA⟩
  have hfix : CallFix p m c cX9_undo 1 s _ wsX9_undo RX9 := ⟨hx, hb, hml, hown, hts⟩
  have hP : va_P D vwCl [(am, .inr (8, [.int th, .int mb, .ref mo, .int us, .int me, .int rc, .int (zb dn), .int lf, .int mw, .int mf, .ref m_p, .ref m_w, .ref m_l, .ref m_v, .int ms, .int mu, .long ml, .ref m_r, .int mz, .ref m_q])), (mo, .inl (y 4, 2, .inr (.inr (.inr (.inr (outr m1 m2)))))), (m1, .inl (y 0, nb, .inl c1)), (m2, .inl (y 0, nb, .inl c2)), (m_p, .inl (y 1, 121, .inl mpa)), (m_w, .inl (y 1, 121, .inl mwe)), (m_l, .inl (y 3, 121, .inl mli)), (m_v, .inl (y 2, 121, .inr (.inl mvo))), (m_r, .inl (y 0, 32, .inl mro)), (m_q, .inl (y 1, 260, .inl mpl))] s.heap := hP
  have iX9 : ∀ w ∈ wsX90, w ∈ wsX9_undo := by decide +kernel
  have hl := lv_entry ([.ref am]) (n := 1) (Nat.le_of_ble_eq_true rfl)
  rw [lg_entry_eq]
  generalize (lg_sl ([.ref am]) ++ List.replicate (1 - (lg_sl ([.ref am])).length) Slot.unset).toArray = ls at hl ⊢
  have hl : lv_has ls 1 [(0, .ref am)] := hl
  unfold fX9_undo at hf
  refine lv_aload_n hx hb dX9_undo_0 rfl (lv_at hl 0 rfl) ?_
  refine va_get (D := D) (ci := 8) (v := .int (zb dn)) (C := RX9) (T := TX9) (N := 20) hx hb hts iX9 hown hK hP 0 rfl rfl 6 (by decide) (hts (.fieldLink RX9 77 "SampleTrackerModel" "isDown" "Z") (by decide +kernel)) (fun _ h9 => h9) rfl dX9_undo_1 ?_
  refine lv_if_eq (tgt := 9) hx hb dX9_undo_4 (by decide) (fun c_1 => ?_) (fun c_1 => ?_)
  · have hf := ifp hf c_1
    refine lv_aload_n hx hb dX9_undo_9 rfl (lv_at hl 0 rfl) ?_
    refine lv_iconst (v := (5 : Int32)) hx hb dX9_undo_10 (by decide) ?_
    obtain ⟨r_2, hc_3, hf⟩ := obd hf
    refine ct_V (As := [.int (5 : Int32)]) (rest := []) (wr := []) (wn := [(am, .inr (8, [.int th, .int mb, .ref mo, .int us, .int me, .int rc, .int (zb dn), .int lf, .int mw, .int mf, .ref m_p, .ref m_w, .ref m_l, .ref m_v, .int ms, .int mu, .long ml, .ref m_r, .int mz, .ref m_q])), (mo, .inl (y 4, 2, .inr (.inr (.inr (.inr (outr m1 m2)))))), (m1, .inl (y 0, nb, .inl c1)), (m2, .inl (y 0, nb, .inl c2)), (m_p, .inl (y 1, 121, .inl mpa)), (m_w, .inl (y 1, 121, .inl mwe)), (m_l, .inl (y 3, 121, .inl mli)), (m_v, .inl (y 2, 121, .inr (.inl mvo))), (m_r, .inl (y 0, 32, .inl mro)), (m_q, .inl (y 1, 260, .inl mpl))]) hfix (cX9_hasRoom_ok l D y am mo m1 m2 m_p m_w m_l m_v m_r m_q nb th mb us me rc dn lf mw mf ms mu ml mz c1 c2 mpa mwe mli mvo mro mpl (5 : Int32) _ hc_3) (cwV 1 hts gX9_undo_X9_hasRoom rfl rfl rfl (by decide +kernel) ⟨Nat.le_of_ble_eq_true rfl, Nat.le_of_ble_eq_true rfl⟩) E hP hD hS [0, 1, 2, 3, 4, 5, 6, 7, 8, 9] [] [0, 1, 2, 3, 4, 5, 6, 7, 8, 9] rfl rfl rfl rfl (by decide) rfl rfl 0 8 rfl rfl rfl hl.1 rfl (Nat.le_of_ble_eq_true rfl) dX9_undo_11 ⟨Nat.zero_le _, Nat.zero_le _⟩ (fun H locs hP hD hS => ?_)
    refine W.eq (g2 := F0 m 14 ls [.int (zb r_2)]) rfl ?_
    refine lv_if_ne (tgt := 20) hx hb dX9_undo_14 (by decide) (fun c_4 => ?_) (fun c_4 => ?_)
    · have hf := ifn hf c_4
      refine lv_aload_n hx hb dX9_undo_20 rfl (lv_at hl 0 rfl) ?_
      refine va_get (D := D) (ci := 8) (v := .int mu) (C := RX9) (T := TX9) (N := 20) hx hb hts iX9 hown hK hP 0 rfl rfl 15 (by decide) (hts (.fieldLink RX9 109 "SampleTrackerModel" "undoable" "I") (by decide +kernel)) (fun _ h9 => h9) rfl dX9_undo_21 ?_
      refine lv_if_ne (tgt := 30) hx hb dX9_undo_24 (by decide) (fun c_5 => ?_) (fun c_5 => ?_)
      · have hf := ifn hf c_5
        refine lv_aload_n hx hb dX9_undo_30 rfl (lv_at hl 0 rfl) ?_
        refine lv_iconst (v := (5 : Int32)) hx hb dX9_undo_31 (by decide) ?_
        obtain ⟨⟨o_mz_6, o_mro_7⟩, hc_8, hf⟩ := obd hf
        refine ct_V (As := [.int (5 : Int32)]) (rest := []) (wr := []) (wn := [(am, .inr (8, [.int th, .int mb, .ref mo, .int us, .int me, .int rc, .int (zb dn), .int lf, .int mw, .int mf, .ref m_p, .ref m_w, .ref m_l, .ref m_v, .int ms, .int mu, .long ml, .ref m_r, .int o_mz_6, .ref m_q])), (mo, .inl (y 4, 2, .inr (.inr (.inr (.inr (outr m1 m2)))))), (m1, .inl (y 0, nb, .inl c1)), (m2, .inl (y 0, nb, .inl c2)), (m_p, .inl (y 1, 121, .inl mpa)), (m_w, .inl (y 1, 121, .inl mwe)), (m_l, .inl (y 3, 121, .inl mli)), (m_v, .inl (y 2, 121, .inr (.inl mvo))), (m_r, .inl (y 0, 32, .inl o_mro_7)), (m_q, .inl (y 1, 260, .inl mpl))]) hfix (cX9_begin_ok l D y am mo m1 m2 m_p m_w m_l m_v m_r m_q nb th mb us me rc dn lf mw mf ms mu ml mz c1 c2 mpa mwe mli mvo mro mpl (5 : Int32) _ hc_8) (cwV 1 hts gX9_undo_X9_begin rfl rfl rfl (by decide +kernel) ⟨Nat.le_of_ble_eq_true rfl, Nat.le_of_ble_eq_true rfl⟩) E hP hD hS [0, 1, 2, 3, 4, 5, 6, 7, 8, 9] [] [0, 1, 2, 3, 4, 5, 6, 7, 8, 9] rfl rfl rfl rfl (by decide) rfl rfl 0 8 rfl rfl rfl hl.1 rfl (Nat.le_of_ble_eq_true rfl) dX9_undo_32 ⟨Nat.zero_le _, Nat.zero_le _⟩ (fun H locs hP hD hS => ?_)
        refine W.eq (g2 := F0 m 35 ls []) rfl ?_
        refine lv_aload_n hx hb dX9_undo_35 rfl (lv_at hl 0 rfl) ?_
        obtain ⟨⟨r_9, o_me_10, o_rc_11, o_dn_12, o_lf_13, o_mw_14, o_mf_15, o_ms_16, o_mu_17, o_ml_18, o_mz_19, o_c1_20, o_c2_21, o_mpa_22, o_mwe_23, o_mli_24, o_mvo_25, o_mro_26, o_mpl_27⟩, hc_28, hf⟩ := obd hf
        refine ct_V (As := []) (rest := []) (wr := []) (wn := [(am, .inr (8, [.int th, .int mb, .ref mo, .int us, .int o_me_10, .int o_rc_11, .int (zb o_dn_12), .int o_lf_13, .int o_mw_14, .int o_mf_15, .ref m_p, .ref m_w, .ref m_l, .ref m_v, .int o_ms_16, .int o_mu_17, .long o_ml_18, .ref m_r, .int o_mz_19, .ref m_q])), (mo, .inl (y 4, 2, .inr (.inr (.inr (.inr (outr m1 m2)))))), (m1, .inl (y 0, nb, .inl o_c1_20)), (m2, .inl (y 0, nb, .inl o_c2_21)), (m_p, .inl (y 1, 121, .inl o_mpa_22)), (m_w, .inl (y 1, 121, .inl o_mwe_23)), (m_l, .inl (y 3, 121, .inl o_mli_24)), (m_v, .inl (y 2, 121, .inr (.inl o_mvo_25))), (m_r, .inl (y 0, 32, .inl o_mro_26)), (m_q, .inl (y 1, 260, .inl o_mpl_27))]) hfix (cX9_acts_ok l D y am mo m1 m2 m_p m_w m_l m_v m_r m_q nb th mb us me rc dn lf mw mf ms mu ml o_mz_6 c1 c2 mpa mwe mli mvo o_mro_7 mpl _ hc_28) (cwV 0 hts gX9_undo_X9_acts rfl rfl rfl (by decide +kernel) ⟨Nat.le_of_ble_eq_true rfl, Nat.le_of_ble_eq_true rfl⟩) E hP hD hS [0, 1, 2, 3, 4, 5, 6, 7, 8, 9] [] [0, 1, 2, 3, 4, 5, 6, 7, 8, 9] rfl rfl rfl rfl (by decide) rfl rfl 0 8 rfl rfl rfl hl.1 rfl (Nat.le_of_ble_eq_true rfl) dX9_undo_36 ⟨Nat.zero_le _, Nat.zero_le _⟩ (fun H locs hP hD hS => ?_)
        refine W.eq (g2 := F0 m 39 ls [.int (zb r_9)]) rfl ?_
        refine lv_if_eq (tgt := 49) hx hb dX9_undo_39 (by decide) (fun c_29 => ?_) (fun c_29 => ?_)
        · have hf := ifp hf c_29
          refine lv_iconst (v := (-1 : Int32)) hx hb dX9_undo_49 (by decide) ?_
          obtain rfl := Option.some.inj hf
          exact W.iret hx hb hr (fun t ht hW => ⟨⟨(), rfl, by rw [ht]; exact hP, hD⟩, hS.F ht⟩) hS.2.2 dX9_undo_50
        · have hf := ifn hf c_29
          refine lv_aload_n hx hb dX9_undo_42 rfl (lv_at hl 0 rfl) ?_
          refine va_get (D := D) (ci := 8) (v := .int o_mu_17) (C := RX9) (T := TX9) (N := 20) hx hb hts iX9 hown hK hP 0 rfl rfl 15 (by decide) (hts (.fieldLink RX9 109 "SampleTrackerModel" "undoable" "I") (by decide +kernel)) (fun _ h9 => h9) rfl dX9_undo_43 ?_
          refine lv_goto (tgt := 50) hx hb dX9_undo_46 (by decide) ?_
          obtain rfl := Option.some.inj hf
          exact W.iret hx hb hr (fun t ht hW => ⟨⟨(), rfl, by rw [ht]; exact hP, hD⟩, hS.F ht⟩) hS.2.2 dX9_undo_50
      · have hf := ifp hf c_5
        refine lv_bipush (v := (-7 : Int32)) hx hb dX9_undo_27 (by decide) ?_
        obtain rfl := Option.some.inj hf
        exact W.iret hx hb hr (fun t ht hW => ⟨⟨(), rfl, by rw [ht]; exact hP, hD⟩, hS.F ht⟩) hS.2.2 dX9_undo_29
    · have hf := ifp hf c_4
      refine lv_bipush (v := (-6 : Int32)) hx hb dX9_undo_17 (by decide) ?_
      obtain rfl := Option.some.inj hf
      exact W.iret hx hb hr (fun t ht hW => ⟨⟨(), rfl, by rw [ht]; exact hP, hD⟩, hS.F ht⟩) hS.2.2 dX9_undo_19
  · have hf := ifn hf c_1
    refine lv_iconst (v := (-1 : Int32)) hx hb dX9_undo_7 (by decide) ?_
    obtain rfl := Option.some.inj hf
    exact W.iret hx hb hr (fun t ht hW => ⟨⟨(), rfl, by rw [ht]; exact hP, hD⟩, hS.F ht⟩) hS.2.2 dX9_undo_8

