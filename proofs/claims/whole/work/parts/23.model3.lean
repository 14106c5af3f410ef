/-! 23.model3: laid by wip/whole/gen.py: mirrors and contracts -/
def fX9_recover_58 (nb : Nat) (mb : Int32) : Nat → Int32 → Int32 → Int32 → Int32 → Int32 → Int32 → Int32 → Int64 → (Nat → Int32) → (Nat → Int32) → (Nat → Int32) → (Nat → Int64) → (Nat → Int32) → (Nat → Int32) → (Nat → Int32) → Option (Int32 × Int32 × Int32 × Int32 × Bool × Int32 × Int32 × Int32 × Int64 × (Nat → Int32) × (Nat → Int32) × (Nat → Int32) × (Nat → Int32) × (Nat → Int32) × (Nat → Int64) × (Nat → Int32))
  | 0, _, _, _, _, _, _, _, _, _, _, _, _, _, _, _ => none
  | n58 + 1, v58_0, v58_1, v58_2, v58_3, v58_4, v58_5, v58_6, v58_7, v58_8, v58_9, v58_10, v58_11, v58_12, v58_13, v58_14 => (if mb ≤ v58_1 then some (v58_4, v58_2, v58_3, v58_4, false, (-1 : Int32), v58_5, v58_6, v58_7, v58_13, v58_14, v58_8, v58_9, v58_10, v58_11, v58_12) else (if v58_2 = 0 then (if (ib v58_1 nb) = true then fX9_recover_58 nb mb n58 v58_0 (v58_1 + (1 : Int32)) v58_2 v58_3 v58_4 v58_5 v58_6 v58_7 v58_8 v58_9 v58_10 v58_11 v58_12 (upd v58_13 v58_1.toNatClampNeg (vp_nar .byte (0 : Int32))) v58_14 else none) else if v58_2 = 1 then (if (ib v58_1 nb) = true then fX9_recover_58 nb mb n58 v58_0 (v58_1 + (1 : Int32)) v58_2 v58_3 v58_4 v58_5 v58_6 v58_7 v58_8 v58_9 v58_10 v58_11 v58_12 v58_13 (upd v58_14 v58_1.toNatClampNeg (vp_nar .byte (0 : Int32))) else none) else none))

def fX9_recover (nb : Nat) (mb : Int32) (c1 : Nat → Int32) (c2 : Nat → Int32) (mpa : Nat → Int32) (mwe : Nat → Int32) (mli : Nat → Int32) (mvo : Nat → Int64) (mpl : Nat → Int32) : Option (Int32 × Int32 × Int32 × Int32 × Bool × Int32 × Int32 × Int32 × Int64 × (Nat → Int32) × (Nat → Int32) × (Nat → Int32) × (Nat → Int32) × (Nat → Int32) × (Nat → Int64) × (Nat → Int32)) := ((fX9_isRight nb c1 c2 (1 : Int32)).bind fun r_6 => (if (zb r_6) = 0 then ((fX9_reads_1 nb mb (0 : Int32) c1 c2 mpa mwe mli mvo mpl).bind fun (o_me_10, o_rc_11, o_ms_12, o_mu_13, o_ml_14, o_mpa_15, o_mwe_16, o_mli_17, o_mvo_18, o_mpl_19) => fX9_recover_58 nb mb FU (0 : Int32) o_me_10 (0 : Int32) o_me_10 o_rc_11 o_ms_12 o_mu_13 o_ml_14 o_mpa_15 o_mwe_16 o_mli_17 o_mvo_18 o_mpl_19 c1 c2) else ((fX9_isRight nb c1 c2 (0 : Int32)).bind fun r_21 => (if (zb r_21) = 0 then ((fX9_reads_2 nb mb (1 : Int32) c1 c2 mpa mwe mli mvo mpl).bind fun (o_me_25, o_rc_26, o_ms_27, o_mu_28, o_ml_29, o_mpa_30, o_mwe_31, o_mli_32, o_mvo_33, o_mpl_34) => fX9_recover_58 nb mb FU (1 : Int32) o_me_25 (1 : Int32) o_me_25 o_rc_26 o_ms_27 o_mu_28 o_ml_29 o_mpa_30 o_mwe_31 o_mli_32 o_mvo_33 o_mpl_34 c1 c2) else ((fX9_generation nb c1 c2 (1 : Int32)).bind fun r_36 => ((fX9_generation nb c1 c2 (0 : Int32)).bind fun r_38 => (if (lg_cmp r_36 r_38) ≤ 0 then ((fX9_reads_1 nb mb (0 : Int32) c1 c2 mpa mwe mli mvo mpl).bind fun (o_me_42, o_rc_43, o_ms_44, o_mu_45, o_ml_46, o_mpa_47, o_mwe_48, o_mli_49, o_mvo_50, o_mpl_51) => fX9_recover_58 nb mb FU (0 : Int32) o_me_42 (0 : Int32) o_me_42 o_rc_43 o_ms_44 o_mu_45 o_ml_46 o_mpa_47 o_mwe_48 o_mli_49 o_mvo_50 o_mpl_51 c1 c2) else ((fX9_reads_2 nb mb (1 : Int32) c1 c2 mpa mwe mli mvo mpl).bind fun (o_me_54, o_rc_55, o_ms_56, o_mu_57, o_ml_58, o_mpa_59, o_mwe_60, o_mli_61, o_mvo_62, o_mpl_63) => fX9_recover_58 nb mb FU (1 : Int32) o_me_54 (1 : Int32) o_me_54 o_rc_55 o_ms_56 o_mu_57 o_ml_58 o_mpa_59 o_mwe_60 o_mli_61 o_mvo_62 o_mpl_63 c1 c2))))))))

set_option maxHeartbeats 4000000 in
set_option maxRecDepth 100000 in
theorem cX9_recover_ok (l : Launch) (D : va_G) (y : Nat → ClassId) (am : Nat) (mo : Nat) (m1 : Nat) (m2 : Nat) (m_p : Nat) (m_w : Nat) (m_l : Nat) (m_v : Nat) (m_r : Nat) (m_q : Nat) (nb : Nat) (th : Int32) (mb : Int32) (us : Int32) (me : Int32) (rc : Int32) (dn : Bool) (lf : Int32) (mw : Int32) (mf : Int32) (ms : Int32) (mu : Int32) (ml : Int64) (mz : Int32) (c1 : Nat → Int32) (c2 : Nat → Int32) (mpa : Nat → Int32) (mwe : Nat → Int32) (mli : Nat → Int32) (mvo : Nat → Int64) (mro : Nat → Int32) (mpl : Nat → Int32) (res : Int32 × Int32 × Int32 × Int32 × Bool × Int32 × Int32 × Int32 × Int64 × (Nat → Int32) × (Nat → Int32) × (Nat → Int32) × (Nat → Int32) × (Nat → Int32) × (Nat → Int64) × (Nat → Int32)) (hf : fX9_recover nb mb c1 c2 mpa mwe mli mvo mpl = some res) : CT l D y yX9_recover wsX9_recover ({ frames := 3, cells := 0, slots := 0, locals := 73 } : Room) [.ref am] [(am, .inr (8, [.int th, .int mb, .ref mo, .int us, .int me, .int rc, .int (zb dn), .int lf, .int mw, .int mf, .ref m_p, .ref m_w, .ref m_l, .ref m_v, .int ms, .int mu, .long ml, .ref m_r, .int mz, .ref m_q])), (mo, .inl (y 4, 2, .inr (.inr (.inr (.inr (outr m1 m2)))))), (m1, .inl (y 0, nb, .inl c1)), (m2, .inl (y 0, nb, .inl c2)), (m_p, .inl (y 1, 121, .inl mpa)), (m_w, .inl (y 1, 121, .inl mwe)), (m_l, .inl (y 3, 121, .inl mli)), (m_v, .inl (y 2, 121, .inr (.inl mvo))), (m_r, .inl (y 0, 32, .inl mro)), (m_q, .inl (y 1, 260, .inl mpl))] (some (.int res.1)) [(am, .inr (8, [.int th, .int mb, .ref mo, .int res.2.1, .int res.2.2.1, .int res.2.2.2.1, .int (zb res.2.2.2.2.1), .int res.2.2.2.2.2.1, .int mw, .int mf, .ref m_p, .ref m_w, .ref m_l, .ref m_v, .int res.2.2.2.2.2.2.1, .int res.2.2.2.2.2.2.2.1, .long res.2.2.2.2.2.2.2.2.1, .ref m_r, .int mz, .ref m_q])), (mo, .inl (y 4, 2, .inr (.inr (.inr (.inr (outr m1 m2)))))), (m1, .inl (y 0, nb, .inl res.2.2.2.2.2.2.2.2.2.1)), (m2, .inl (y 0, nb, .inl res.2.2.2.2.2.2.2.2.2.2.1)), (m_p, .inl (y 1, 121, .inl res.2.2.2.2.2.2.2.2.2.2.2.1)), (m_w, .inl (y 1, 121, .inl res.2.2.2.2.2.2.2.2.2.2.2.2.1)), (m_l, .inl (y 3, 121, .inl res.2.2.2.2.2.2.2.2.2.2.2.2.2.1)), (m_v, .inl (y 2, 121, .inr (.inl res.2.2.2.2.2.2.2.2.2.2.2.2.2.2.1))), (m_r, .inl (y 0, 32, .inl mro)), (m_q, .inl (y 1, 260, .inl res.2.2.2.2.2.2.2.2.2.2.2.2.2.2.2))] := by
  intro sz
  refine Met.ofW (cc := cX9_recover) (maxL := 3) (ret := (some .int)) (by decide) rfl ?_
  intro p e s m args below meth c s₁ B hml hv
  obtain ⟨rfl, hsz, hP, hK, hD0, hst, hno⟩ := hv
  have hx := B.exec
  have hb := B.bytes
  have hr := B.returns
  have hts := atoms_spec (ws := wsX9_recover) B.pre
  have hown : s.vm.findClass RX9 = some m.cls := findClass_of_methodNamed B.named
  have hlocks := B.notSynchronized
  subst hsz
  have hD := hD0.self (sz := s.heap.size)
  generalize hAe : va_A [(am, .inr (8, [.int th, .int mb, .ref mo, .int us, .int me, .int rc, .int (zb dn), .int lf, .int mw, .int mf, .ref m_p, .ref m_w, .ref m_l, .ref m_v, .int ms, .int mu, .long ml, .ref m_r, .int mz, .ref m_q])), (mo, .inl (y 4, 2, .inr (.inr (.inr (.inr (outr m1 m2)))))), (m1, .inl (y 0, nb, .inl c1)), (m2, .inl (y 0, nb, .inl c2)), (m_p, .inl (y 1, 121, .inl mpa)), (m_w, .inl (y 1, 121, .inl mwe)), (m_l, .inl (y 3, 121, .inl mli)), (m_v, .inl (y 2, 121, .inr (.inl mvo))), (m_r, .inl (y 0, 32, .inl mro)), (m_q, .inl (y 1, 260, .inl mpl))] s.heap.size = A at hD hst ⊢
  have hA : ∀ q : Nat, s.heap.size ≤ q → A q := fun q h => by rw [← hAe]; exact Or.inr h
  have hS : va_S A s.heap s.heap [] := va_S.rf
  have E : Ev D y A s := ⟨hK, hst, hno, hA⟩
  have hfix : CallFix p m c cX9_recover 3 s _ wsX9_recover RX9 := ⟨hx, hb, hml, hown, hts⟩
  have hP : va_P D vwCl [(am, .inr (8, [.int th, .int mb, .ref mo, .int us, .int me, .int rc, .int (zb dn), .int lf, .int mw, .int mf, .ref m_p, .ref m_w, .ref m_l, .ref m_v, .int ms, .int mu, .long ml, .ref m_r, .int mz, .ref m_q])), (mo, .inl (y 4, 2, .inr (.inr (.inr (.inr (outr m1 m2)))))), (m1, .inl (y 0, nb, .inl c1)), (m2, .inl (y 0, nb, .inl c2)), (m_p, .inl (y 1, 121, .inl mpa)), (m_w, .inl (y 1, 121, .inl mwe)), (m_l, .inl (y 3, 121, .inl mli)), (m_v, .inl (y 2, 121, .inr (.inl mvo))), (m_r, .inl (y 0, 32, .inl mro)), (m_q, .inl (y 1, 260, .inl mpl))] s.heap := hP
  have iX9 : ∀ w ∈ wsX90, w ∈ wsX9_recover := by decide +kernel
  have hl := lv_entry ([.ref am]) (n := 3) (Nat.le_of_ble_eq_true rfl)
  rw [lg_entry_eq]
  generalize (lg_sl ([.ref am]) ++ List.replicate (3 - (lg_sl ([.ref am])).length) Slot.unset).toArray = ls at hl ⊢
  have hl : lv_has ls 3 [(0, .ref am)] := hl
  have hL58 : ∀ (n58 : Nat) (v58_0 : Int32) (v58_1 : Int32) (v58_2 : Int32) (v58_3 : Int32) (v58_4 : Int32) (v58_5 : Int32) (v58_6 : Int32) (v58_7 : Int64) (v58_8 : Nat → Int32) (v58_9 : Nat → Int32) (v58_10 : Nat → Int32) (v58_11 : Nat → Int64) (v58_12 : Nat → Int32) (v58_13 : Nat → Int32) (v58_14 : Nat → Int32) (H : Heap) (locs : List Loc) (ls : Array Slot), fX9_recover_58 nb mb n58 v58_0 v58_1 v58_2 v58_3 v58_4 v58_5 v58_6 v58_7 v58_8 v58_9 v58_10 v58_11 v58_12 v58_13 v58_14 = some res → va_P D vwCl [(am, .inr (8, [.int th, .int mb, .ref mo, .int v58_2, .int v58_3, .int v58_4, .int (zb dn), .int lf, .int mw, .int mf, .ref m_p, .ref m_w, .ref m_l, .ref m_v, .int v58_5, .int v58_6, .long v58_7, .ref m_r, .int mz, .ref m_q])), (mo, .inl (y 4, 2, .inr (.inr (.inr (.inr (outr m1 m2)))))), (m1, .inl (y 0, nb, .inl v58_13)), (m2, .inl (y 0, nb, .inl v58_14)), (m_p, .inl (y 1, 121, .inl v58_8)), (m_w, .inl (y 1, 121, .inl v58_9)), (m_l, .inl (y 3, 121, .inl v58_10)), (m_v, .inl (y 2, 121, .inr (.inl v58_11))), (m_r, .inl (y 0, 32, .inl mro)), (m_q, .inl (y 1, 260, .inl v58_12))] H → va_D A [(am, .inr (8, [.int th, .int mb, .ref mo, .int v58_2, .int v58_3, .int v58_4, .int (zb dn), .int lf, .int mw, .int mf, .ref m_p, .ref m_w, .ref m_l, .ref m_v, .int v58_5, .int v58_6, .long v58_7, .ref m_r, .int mz, .ref m_q])), (mo, .inl (y 4, 2, .inr (.inr (.inr (.inr (outr m1 m2)))))), (m1, .inl (y 0, nb, .inl v58_13)), (m2, .inl (y 0, nb, .inl v58_14)), (m_p, .inl (y 1, 121, .inl v58_8)), (m_w, .inl (y 1, 121, .inl v58_9)), (m_l, .inl (y 3, 121, .inl v58_10)), (m_v, .inl (y 2, 121, .inr (.inl v58_11))), (m_r, .inl (y 0, 32, .inl mro)), (m_q, .inl (y 1, 260, .inl v58_12))] → va_S A s.heap H locs → lv_has ls 3 [(0, .ref am), (1, .int v58_0), (2, .int v58_1)] → W p l e (headSpec wsX9_recover ({ frames := 3, cells := 0, slots := 0, locals := 73 } : Room)).room s m ([.ref am] : List Value).toArray below meth c H locs 0 0 (MQ below (Po D (fun _ : Unit => some (.int res.1)) (fun _ => [(am, .inr (8, [.int th, .int mb, .ref mo, .int res.2.1, .int res.2.2.1, .int res.2.2.2.1, .int (zb res.2.2.2.2.1), .int res.2.2.2.2.2.1, .int mw, .int mf, .ref m_p, .ref m_w, .ref m_l, .ref m_v, .int res.2.2.2.2.2.2.1, .int res.2.2.2.2.2.2.2.1, .long res.2.2.2.2.2.2.2.2.1, .ref m_r, .int mz, .ref m_q])), (mo, .inl (y 4, 2, .inr (.inr (.inr (.inr (outr m1 m2)))))), (m1, .inl (y 0, nb, .inl res.2.2.2.2.2.2.2.2.2.1)), (m2, .inl (y 0, nb, .inl res.2.2.2.2.2.2.2.2.2.2.1)), (m_p, .inl (y 1, 121, .inl res.2.2.2.2.2.2.2.2.2.2.2.1)), (m_w, .inl (y 1, 121, .inl res.2.2.2.2.2.2.2.2.2.2.2.2.1)), (m_l, .inl (y 3, 121, .inl res.2.2.2.2.2.2.2.2.2.2.2.2.2.1)), (m_v, .inl (y 2, 121, .inr (.inl res.2.2.2.2.2.2.2.2.2.2.2.2.2.2.1))), (m_r, .inl (y 0, 32, .inl mro)), (m_q, .inl (y 1, 260, .inl res.2.2.2.2.2.2.2.2.2.2.2.2.2.2.2))]) A) ([.ref am] : List Value).toArray s 0 0 A) (F0 m 58 ls []) := by
    intro n58
    induction n58 with
    | zero =>
      intro v58_0 v58_1 v58_2 v58_3 v58_4 v58_5 v58_6 v58_7 v58_8 v58_9 v58_10 v58_11 v58_12 v58_13 v58_14 H locs ls hf
      exact absurd (show (none : Option (Int32 × Int32 × Int32 × Int32 × Bool × Int32 × Int32 × Int32 × Int64 × (Nat → Int32) × (Nat → Int32) × (Nat → Int32) × (Nat → Int32) × (Nat → Int32) × (Nat → Int64) × (Nat → Int32))) = some res from hf) (fun q => by cases q)
    | succ n58 ih58 =>
      intro v58_0 v58_1 v58_2 v58_3 v58_4 v58_5 v58_6 v58_7 v58_8 v58_9 v58_10 v58_11 v58_12 v58_13 v58_14 H locs ls hf hP hD hS hl
      unfold fX9_recover_58 at hf
      refine lv_iload_n hx hb dX9_recover_58 rfl (lv_at hl 2 rfl) ?_
      refine lv_aload_n hx hb dX9_recover_59 rfl (lv_at hl 0 rfl) ?_
      refine va_get (D := D) (ci := 8) (v := .int mb) (C := RX9) (T := TX9) (N := 20) hx hb hts iX9 hown hK hP 0 rfl rfl 1 (by decide) (hts (.fieldLink RX9 35 "SampleTrackerModel" "bytes" "I") (by decide +kernel)) (fun _ h9 => h9) rfl dX9_recover_60 ?_
      refine lv_icmp_ge (tgt := 84) hx hb dX9_recover_63 (by decide) (fun c_1 => ?_) (fun c_1 => ?_)
      · have hf := ifp hf c_1
        refine lv_aload_n hx hb dX9_recover_84 rfl (lv_at hl 0 rfl) ?_
        refine lv_iconst (v := (0 : Int32)) hx hb dX9_recover_85 (by decide) ?_
        refine va_put (D := D) (ci := 8) (v := .int (0 : Int32)) (ty := .boolean) (C := RX9) (T := TX9) (N := 20) hx hb hts iX9 tyX9 tyX9_ok nmX9 hown hK hP hD hS 0 rfl rfl 6 (by decide) (hts (.fieldLink RX9 77 "SampleTrackerModel" "isDown" "Z") (by decide +kernel)) (fun _ h9 => h9) rfl (by decide +kernel) rfl rfl (Nat.le_of_ble_eq_true rfl) dX9_recover_86 (fun H locs hP hD hS => ?_)
        have hP : va_P D vwCl [(am, .inr (8, [.int th, .int mb, .ref mo, .int v58_2, .int v58_3, .int v58_4, .int (zb false), .int lf, .int mw, .int mf, .ref m_p, .ref m_w, .ref m_l, .ref m_v, .int v58_5, .int v58_6, .long v58_7, .ref m_r, .int mz, .ref m_q])), (mo, .inl (y 4, 2, .inr (.inr (.inr (.inr (outr m1 m2)))))), (m1, .inl (y 0, nb, .inl v58_13)), (m2, .inl (y 0, nb, .inl v58_14)), (m_p, .inl (y 1, 121, .inl v58_8)), (m_w, .inl (y 1, 121, .inl v58_9)), (m_l, .inl (y 3, 121, .inl v58_10)), (m_v, .inl (y 2, 121, .inr (.inl v58_11))), (m_r, .inl (y 0, 32, .inl mro)), (m_q, .inl (y 1, 260, .inl v58_12))] H := hP
        have hD : va_D A [(am, .inr (8, [.int th, .int mb, .ref mo, .int v58_2, .int v58_3, .int v58_4, .int (zb false), .int lf, .int mw, .int mf, .ref m_p, .ref m_w, .ref m_l, .ref m_v, .int v58_5, .int v58_6, .long v58_7, .ref m_r, .int mz, .ref m_q])), (mo, .inl (y 4, 2, .inr (.inr (.inr (.inr (outr m1 m2)))))), (m1, .inl (y 0, nb, .inl v58_13)), (m2, .inl (y 0, nb, .inl v58_14)), (m_p, .inl (y 1, 121, .inl v58_8)), (m_w, .inl (y 1, 121, .inl v58_9)), (m_l, .inl (y 3, 121, .inl v58_10)), (m_v, .inl (y 2, 121, .inr (.inl v58_11))), (m_r, .inl (y 0, 32, .inl mro)), (m_q, .inl (y 1, 260, .inl v58_12))] := hD
        refine lv_aload_n hx hb dX9_recover_89 rfl (lv_at hl 0 rfl) ?_
        refine lv_iconst (v := (-1 : Int32)) hx hb dX9_recover_90 (by decide) ?_
        refine va_put (D := D) (ci := 8) (v := .int (-1 : Int32)) (ty := .int) (C := RX9) (T := TX9) (N := 20) hx hb hts iX9 tyX9 tyX9_ok nmX9 hown hK hP hD hS 0 rfl rfl 7 (by decide) (hts (.fieldLink RX9 9 "SampleTrackerModel" "left" "I") (by decide +kernel)) (fun _ h9 => h9) rfl (by decide +kernel) rfl rfl (Nat.le_of_ble_eq_true rfl) dX9_recover_91 (fun H locs hP hD hS => ?_)
        have hP : va_P D vwCl [(am, .inr (8, [.int th, .int mb, .ref mo, .int v58_2, .int v58_3, .int v58_4, .int (zb false), .int (-1 : Int32), .int mw, .int mf, .ref m_p, .ref m_w, .ref m_l, .ref m_v, .int v58_5, .int v58_6, .long v58_7, .ref m_r, .int mz, .ref m_q])), (mo, .inl (y 4, 2, .inr (.inr (.inr (.inr (outr m1 m2)))))), (m1, .inl (y 0, nb, .inl v58_13)), (m2, .inl (y 0, nb, .inl v58_14)), (m_p, .inl (y 1, 121, .inl v58_8)), (m_w, .inl (y 1, 121, .inl v58_9)), (m_l, .inl (y 3, 121, .inl v58_10)), (m_v, .inl (y 2, 121, .inr (.inl v58_11))), (m_r, .inl (y 0, 32, .inl mro)), (m_q, .inl (y 1, 260, .inl v58_12))] H := hP
        have hD : va_D A [(am, .inr (8, [.int th, .int mb, .ref mo, .int v58_2, .int v58_3, .int v58_4, .int (zb false), .int (-1 : Int32), .int mw, .int mf, .ref m_p, .ref m_w, .ref m_l, .ref m_v, .int v58_5, .int v58_6, .long v58_7, .ref m_r, .int mz, .ref m_q])), (mo, .inl (y 4, 2, .inr (.inr (.inr (.inr (outr m1 m2)))))), (m1, .inl (y 0, nb, .inl v58_13)), (m2, .inl (y 0, nb, .inl v58_14)), (m_p, .inl (y 1, 121, .inl v58_8)), (m_w, .inl (y 1, 121, .inl v58_9)), (m_l, .inl (y 3, 121, .inl v58_10)), (m_v, .inl (y 2, 121, .inr (.inl v58_11))), (m_r, .inl (y 0, 32, .inl mro)), (m_q, .inl (y 1, 260, .inl v58_12))] := hD
        refine lv_aload_n hx hb dX9_recover_94 rfl (lv_at hl 0 rfl) ?_
        refine va_get (D := D) (ci := 8) (v := .int v58_4) (C := RX9) (T := TX9) (N := 20) hx hb hts iX9 hown hK hP 0 rfl rfl 5 (by decide) (hts (.fieldLink RX9 106 "SampleTrackerModel" "records" "I") (by decide +kernel)) (fun _ h9 => h9) rfl dX9_recover_95 ?_
        obtain rfl := Option.some.inj hf
        exact W.iret hx hb hr (fun t ht hW => ⟨⟨(), rfl, by rw [ht]; exact hP, hD⟩, hS.F ht⟩) hS.2.2 dX9_recover_98
      · have hf := ifn hf c_1
        refine lv_aload_n hx hb dX9_recover_66 rfl (lv_at hl 0 rfl) ?_
        refine va_get (D := D) (ci := 8) (v := .ref mo) (C := RX9) (T := TX9) (N := 20) hx hb hts iX9 hown hK hP 0 rfl rfl 2 (by decide) (hts (.fieldLink RX9 40 "SampleTrackerModel" "bank" "[[B") (by decide +kernel)) (fun _ h9 => h9) rfl dX9_recover_67 ?_
        refine lv_aload_n hx hb dX9_recover_70 rfl (lv_at hl 0 rfl) ?_
        refine va_get (D := D) (ci := 8) (v := .int v58_2) (C := RX9) (T := TX9) (N := 20) hx hb hts iX9 hown hK hP 0 rfl rfl 3 (by decide) (hts (.fieldLink RX9 100 "SampleTrackerModel" "use" "I") (by decide +kernel)) (fun _ h9 => h9) rfl dX9_recover_71 ?_
        by_cases c_2 : v58_2 = 0
        · have hf := ifp hf c_2
          refine al_0 (hi := c_2) hx hb hK hP 1 4 rfl rfl dX9_recover_74 ?_
          refine lv_iload_n hx hb dX9_recover_75 rfl (lv_at hl 2 rfl) ?_
          refine lv_iconst (v := (0 : Int32)) hx hb dX9_recover_76 (by decide) ?_
          obtain ⟨h_4, hf⟩ := ibk hf
          refine va_bast hx hb hK hP hD hS 2 0 rfl rfl (ib_in h_4) dX9_recover_77 (fun H locs hP hD hS => ?_)
          have hP : va_P D vwCl [(am, .inr (8, [.int th, .int mb, .ref mo, .int v58_2, .int v58_3, .int v58_4, .int (zb dn), .int lf, .int mw, .int mf, .ref m_p, .ref m_w, .ref m_l, .ref m_v, .int v58_5, .int v58_6, .long v58_7, .ref m_r, .int mz, .ref m_q])), (mo, .inl (y 4, 2, .inr (.inr (.inr (.inr (outr m1 m2)))))), (m1, .inl (y 0, nb, .inl (upd v58_13 v58_1.toNatClampNeg (vp_nar .byte (0 : Int32))))), (m2, .inl (y 0, nb, .inl v58_14)), (m_p, .inl (y 1, 121, .inl v58_8)), (m_w, .inl (y 1, 121, .inl v58_9)), (m_l, .inl (y 3, 121, .inl v58_10)), (m_v, .inl (y 2, 121, .inr (.inl v58_11))), (m_r, .inl (y 0, 32, .inl mro)), (m_q, .inl (y 1, 260, .inl v58_12))] H := hP
          have hD : va_D A [(am, .inr (8, [.int th, .int mb, .ref mo, .int v58_2, .int v58_3, .int v58_4, .int (zb dn), .int lf, .int mw, .int mf, .ref m_p, .ref m_w, .ref m_l, .ref m_v, .int v58_5, .int v58_6, .long v58_7, .ref m_r, .int mz, .ref m_q])), (mo, .inl (y 4, 2, .inr (.inr (.inr (.inr (outr m1 m2)))))), (m1, .inl (y 0, nb, .inl (upd v58_13 v58_1.toNatClampNeg (vp_nar .byte (0 : Int32))))), (m2, .inl (y 0, nb, .inl v58_14)), (m_p, .inl (y 1, 121, .inl v58_8)), (m_w, .inl (y 1, 121, .inl v58_9)), (m_l, .inl (y 3, 121, .inl v58_10)), (m_v, .inl (y 2, 121, .inr (.inl v58_11))), (m_r, .inl (y 0, 32, .inl mro)), (m_q, .inl (y 1, 260, .inl v58_12))] := hD
          refine lv_iinc (v := (v58_1 + (1 : Int32))) (lv' := [(2, .int (v58_1 + (1 : Int32))), (0, .ref am), (1, .int v58_0)]) hx hb dX9_recover_78 hl (k := 2) rfl rfl (by decide) rfl (fun ls hl => ?_)
          refine lv_goto (tgt := 58) hx hb dX9_recover_81 (by decide) ?_
          exact ih58 v58_0 (v58_1 + (1 : Int32)) v58_2 v58_3 v58_4 v58_5 v58_6 v58_7 v58_8 v58_9 v58_10 v58_11 v58_12 (upd v58_13 v58_1.toNatClampNeg (vp_nar .byte (0 : Int32))) v58_14 _ _ _ hf hP hD hS (lv_sub hl [1, 2, 0] rfl)
        · have hf := ifn hf c_2
          by_cases c_3 : v58_2 = 1
          · have hf := ifp hf c_3
            refine al_1 (hi := c_3) hx hb hK hP 1 4 rfl rfl dX9_recover_74 ?_
            refine lv_iload_n hx hb dX9_recover_75 rfl (lv_at hl 2 rfl) ?_
            refine lv_iconst (v := (0 : Int32)) hx hb dX9_recover_76 (by decide) ?_
            obtain ⟨h_5, hf⟩ := ibk hf
            refine va_bast hx hb hK hP hD hS 3 0 rfl rfl (ib_in h_5) dX9_recover_77 (fun H locs hP hD hS => ?_)
            have hP : va_P D vwCl [(am, .inr (8, [.int th, .int mb, .ref mo, .int v58_2, .int v58_3, .int v58_4, .int (zb dn), .int lf, .int mw, .int mf, .ref m_p, .ref m_w, .ref m_l, .ref m_v, .int v58_5, .int v58_6, .long v58_7, .ref m_r, .int mz, .ref m_q])), (mo, .inl (y 4, 2, .inr (.inr (.inr (.inr (outr m1 m2)))))), (m1, .inl (y 0, nb, .inl v58_13)), (m2, .inl (y 0, nb, .inl (upd v58_14 v58_1.toNatClampNeg (vp_nar .byte (0 : Int32))))), (m_p, .inl (y 1, 121, .inl v58_8)), (m_w, .inl (y 1, 121, .inl v58_9)), (m_l, .inl (y 3, 121, .inl v58_10)), (m_v, .inl (y 2, 121, .inr (.inl v58_11))), (m_r, .inl (y 0, 32, .inl mro)), (m_q, .inl (y 1, 260, .inl v58_12))] H := hP
            have hD : va_D A [(am, .inr (8, [.int th, .int mb, .ref mo, .int v58_2, .int v58_3, .int v58_4, .int (zb dn), .int lf, .int mw, .int mf, .ref m_p, .ref m_w, .ref m_l, .ref m_v, .int v58_5, .int v58_6, .long v58_7, .ref m_r, .int mz, .ref m_q])), (mo, .inl (y 4, 2, .inr (.inr (.inr (.inr (outr m1 m2)))))), (m1, .inl (y 0, nb, .inl v58_13)), (m2, .inl (y 0, nb, .inl (upd v58_14 v58_1.toNatClampNeg (vp_nar .byte (0 : Int32))))), (m_p, .inl (y 1, 121, .inl v58_8)), (m_w, .inl (y 1, 121, .inl v58_9)), (m_l, .inl (y 3, 121, .inl v58_10)), (m_v, .inl (y 2, 121, .inr (.inl v58_11))), (m_r, .inl (y 0, 32, .inl mro)), (m_q, .inl (y 1, 260, .inl v58_12))] := hD
            refine lv_iinc (v := (v58_1 + (1 : Int32))) (lv' := [(2, .int (v58_1 + (1 : Int32))), (0, .ref am), (1, .int v58_0)]) hx hb dX9_recover_78 hl (k := 2) rfl rfl (by decide) rfl (fun ls hl => ?_)
            refine lv_goto (tgt := 58) hx hb dX9_recover_81 (by decide) ?_
            exact ih58 v58_0 (v58_1 + (1 : Int32)) v58_2 v58_3 v58_4 v58_5 v58_6 v58_7 v58_8 v58_9 v58_10 v58_11 v58_12 v58_13 (upd v58_14 v58_1.toNatClampNeg (vp_nar .byte (0 : Int32))) _ _ _ hf hP hD hS (lv_sub hl [1, 2, 0] rfl)
          · have hf := ifn hf c_3
            exact absurd hf (fun q => by cases q)
  unfold fX9_recover at hf
  refine lv_aload_n hx hb dX9_recover_0 rfl (lv_at hl 0 rfl) ?_
  refine lv_iconst (v := (1 : Int32)) hx hb dX9_recover_1 (by decide) ?_
  obtain ⟨r_6, hc_7, hf⟩ := obd hf
  refine ct_V (As := [.int (1 : Int32)]) (rest := []) (wr := []) (wn := [(am, .inr (8, [.int th, .int mb, .ref mo, .int us, .int me, .int rc, .int (zb dn), .int lf, .int mw, .int mf, .ref m_p, .ref m_w, .ref m_l, .ref m_v, .int ms, .int mu, .long ml, .ref m_r, .int mz, .ref m_q])), (mo, .inl (y 4, 2, .inr (.inr (.inr (.inr (outr m1 m2)))))), (m1, .inl (y 0, nb, .inl c1)), (m2, .inl (y 0, nb, .inl c2)), (m_p, .inl (y 1, 121, .inl mpa)), (m_w, .inl (y 1, 121, .inl mwe)), (m_l, .inl (y 3, 121, .inl mli)), (m_v, .inl (y 2, 121, .inr (.inl mvo))), (m_r, .inl (y 0, 32, .inl mro)), (m_q, .inl (y 1, 260, .inl mpl))]) hfix (cX9_isRight_ok l D y am mo m1 m2 m_p m_w m_l m_v m_r m_q nb th mb us me rc dn lf mw mf ms mu ml mz c1 c2 mpa mwe mli mvo mro mpl (1 : Int32) _ hc_7) (cwV 1 hts gX9_recover_X9_isRight rfl rfl rfl (by decide +kernel) ⟨Nat.le_of_ble_eq_true rfl, Nat.le_of_ble_eq_true rfl⟩) E hP hD hS [0, 1, 2, 3, 4, 5, 6, 7, 8, 9] [] [0, 1, 2, 3, 4, 5, 6, 7, 8, 9] rfl rfl rfl rfl (by decide) rfl rfl 0 8 rfl rfl rfl hl.1 rfl (Nat.le_of_ble_eq_true rfl) dX9_recover_2 ⟨Nat.zero_le _, Nat.zero_le _⟩ (fun H locs hP hD hS => ?_)
  refine W.eq (g2 := F0 m 5 ls [.int (zb r_6)]) rfl ?_
  refine lv_if_eq (tgt := 34) hx hb dX9_recover_5 (by decide) (fun c_8 => ?_) (fun c_8 => ?_)
  · have hf := ifp hf c_8
    refine lv_iconst (v := (0 : Int32)) hx hb dX9_recover_34 (by decide) ?_
    refine lv_istore_n (lv' := [(1, .int (0 : Int32)), (0, .ref am)]) hx hb dX9_recover_35 rfl hl (by decide) rfl (fun ls hl => ?_)
    refine lv_aload_n hx hb dX9_recover_36 rfl (lv_at hl 1 rfl) ?_
    refine lv_iload_n hx hb dX9_recover_37 rfl (lv_at hl 0 rfl) ?_
    refine lv_if_eq (tgt := 45) hx hb dX9_recover_38 (by decide) (fun c_9 => ?_) (fun c_9 => absurd (by decide) c_9)
    refine lv_iconst (v := (0 : Int32)) hx hb dX9_recover_45 (by decide) ?_
    refine va_put (D := D) (ci := 8) (v := .int (0 : Int32)) (ty := .int) (C := RX9) (T := TX9) (N := 20) hx hb hts iX9 tyX9 tyX9_ok nmX9 hown hK hP hD hS 0 rfl rfl 3 (by decide) (hts (.fieldLink RX9 100 "SampleTrackerModel" "use" "I") (by decide +kernel)) (fun _ h9 => h9) rfl (by decide +kernel) rfl rfl (Nat.le_of_ble_eq_true rfl) dX9_recover_46 (fun H locs hP hD hS => ?_)
    have hP : va_P D vwCl [(am, .inr (8, [.int th, .int mb, .ref mo, .int (0 : Int32), .int me, .int rc, .int (zb dn), .int lf, .int mw, .int mf, .ref m_p, .ref m_w, .ref m_l, .ref m_v, .int ms, .int mu, .long ml, .ref m_r, .int mz, .ref m_q])), (mo, .inl (y 4, 2, .inr (.inr (.inr (.inr (outr m1 m2)))))), (m1, .inl (y 0, nb, .inl c1)), (m2, .inl (y 0, nb, .inl c2)), (m_p, .inl (y 1, 121, .inl mpa)), (m_w, .inl (y 1, 121, .inl mwe)), (m_l, .inl (y 3, 121, .inl mli)), (m_v, .inl (y 2, 121, .inr (.inl mvo))), (m_r, .inl (y 0, 32, .inl mro)), (m_q, .inl (y 1, 260, .inl mpl))] H := hP
    have hD : va_D A [(am, .inr (8, [.int th, .int mb, .ref mo, .int (0 : Int32), .int me, .int rc, .int (zb dn), .int lf, .int mw, .int mf, .ref m_p, .ref m_w, .ref m_l, .ref m_v, .int ms, .int mu, .long ml, .ref m_r, .int mz, .ref m_q])), (mo, .inl (y 4, 2, .inr (.inr (.inr (.inr (outr m1 m2)))))), (m1, .inl (y 0, nb, .inl c1)), (m2, .inl (y 0, nb, .inl c2)), (m_p, .inl (y 1, 121, .inl mpa)), (m_w, .inl (y 1, 121, .inl mwe)), (m_l, .inl (y 3, 121, .inl mli)), (m_v, .inl (y 2, 121, .inr (.inl mvo))), (m_r, .inl (y 0, 32, .inl mro)), (m_q, .inl (y 1, 260, .inl mpl))] := hD
    refine lv_aload_n hx hb dX9_recover_49 rfl (lv_at hl 1 rfl) ?_
    obtain ⟨⟨o_me_10, o_rc_11, o_ms_12, o_mu_13, o_ml_14, o_mpa_15, o_mwe_16, o_mli_17, o_mvo_18, o_mpl_19⟩, hc_20, hf⟩ := obd hf
    refine ct_V (As := []) (rest := []) (wr := []) (wn := [(am, .inr (8, [.int th, .int mb, .ref mo, .int (0 : Int32), .int o_me_10, .int o_rc_11, .int (zb dn), .int lf, .int mw, .int mf, .ref m_p, .ref m_w, .ref m_l, .ref m_v, .int o_ms_12, .int o_mu_13, .long o_ml_14, .ref m_r, .int mz, .ref m_q])), (mo, .inl (y 4, 2, .inr (.inr (.inr (.inr (outr m1 m2)))))), (m1, .inl (y 0, nb, .inl c1)), (m2, .inl (y 0, nb, .inl c2)), (m_p, .inl (y 1, 121, .inl o_mpa_15)), (m_w, .inl (y 1, 121, .inl o_mwe_16)), (m_l, .inl (y 3, 121, .inl o_mli_17)), (m_v, .inl (y 2, 121, .inr (.inl o_mvo_18))), (m_r, .inl (y 0, 32, .inl mro)), (m_q, .inl (y 1, 260, .inl o_mpl_19))]) hfix (cX9_reads_1_ok l D y am mo m1 m2 m_p m_w m_l m_v m_r m_q nb th mb (0 : Int32) me rc dn lf mw mf ms mu ml mz c1 c2 mpa mwe mli mvo mro mpl (by decide) _ hc_20) (cwV 0 hts gX9_recover_X9_reads rfl rfl rfl (by decide +kernel) ⟨Nat.le_of_ble_eq_true rfl, Nat.le_of_ble_eq_true rfl⟩) E hP hD hS [0, 1, 2, 3, 4, 5, 6, 7, 8, 9] [] [0, 1, 2, 3, 4, 5, 6, 7, 8, 9] rfl rfl rfl rfl (by decide) rfl rfl 0 8 rfl rfl rfl hl.1 rfl (Nat.le_of_ble_eq_true rfl) dX9_recover_50 ⟨Nat.zero_le _, Nat.zero_le _⟩ (fun H locs hP hD hS => ?_)
    refine W.eq (g2 := F0 m 53 ls []) rfl ?_
    refine lv_aload_n hx hb dX9_recover_53 rfl (lv_at hl 1 rfl) ?_
    refine va_get (D := D) (ci := 8) (v := .int o_me_10) (C := RX9) (T := TX9) (N := 20) hx hb hts iX9 hown hK hP 0 rfl rfl 4 (by decide) (hts (.fieldLink RX9 103 "SampleTrackerModel" "end" "I") (by decide +kernel)) (fun _ h9 => h9) rfl dX9_recover_54 ?_
    refine lv_istore_n (lv' := [(2, .int o_me_10), (1, .int (0 : Int32)), (0, .ref am)]) hx hb dX9_recover_57 rfl hl (by decide) rfl (fun ls hl => ?_)
    exact hL58 FU (0 : Int32) o_me_10 (0 : Int32) o_me_10 o_rc_11 o_ms_12 o_mu_13 o_ml_14 o_mpa_15 o_mwe_16 o_mli_17 o_mvo_18 o_mpl_19 c1 c2 _ _ _ hf hP hD hS (lv_sub hl [2, 1, 0] rfl)
  · have hf := ifn hf c_8
    refine lv_aload_n hx hb dX9_recover_8 rfl (lv_at hl 0 rfl) ?_
    refine lv_iconst (v := (0 : Int32)) hx hb dX9_recover_9 (by decide) ?_
    obtain ⟨r_21, hc_22, hf⟩ := obd hf
    refine ct_V (As := [.int (0 : Int32)]) (rest := []) (wr := []) (wn := [(am, .inr (8, [.int th, .int mb, .ref mo, .int us, .int me, .int rc, .int (zb dn), .int lf, .int mw, .int mf, .ref m_p, .ref m_w, .ref m_l, .ref m_v, .int ms, .int mu, .long ml, .ref m_r, .int mz, .ref m_q])), (mo, .inl (y 4, 2, .inr (.inr (.inr (.inr (outr m1 m2)))))), (m1, .inl (y 0, nb, .inl c1)), (m2, .inl (y 0, nb, .inl c2)), (m_p, .inl (y 1, 121, .inl mpa)), (m_w, .inl (y 1, 121, .inl mwe)), (m_l, .inl (y 3, 121, .inl mli)), (m_v, .inl (y 2, 121, .inr (.inl mvo))), (m_r, .inl (y 0, 32, .inl mro)), (m_q, .inl (y 1, 260, .inl mpl))]) hfix (cX9_isRight_ok l D y am mo m1 m2 m_p m_w m_l m_v m_r m_q nb th mb us me rc dn lf mw mf ms mu ml mz c1 c2 mpa mwe mli mvo mro mpl (0 : Int32) _ hc_22) (cwV 1 hts gX9_recover_X9_isRight rfl rfl rfl (by decide +kernel) ⟨Nat.le_of_ble_eq_true rfl, Nat.le_of_ble_eq_true rfl⟩) E hP hD hS [0, 1, 2, 3, 4, 5, 6, 7, 8, 9] [] [0, 1, 2, 3, 4, 5, 6, 7, 8, 9] rfl rfl rfl rfl (by decide) rfl rfl 0 8 rfl rfl rfl hl.1 rfl (Nat.le_of_ble_eq_true rfl) dX9_recover_10 ⟨Nat.zero_le _, Nat.zero_le _⟩ (fun H locs hP hD hS => ?_)
    refine W.eq (g2 := F0 m 13 ls [.int (zb r_21)]) rfl ?_
    refine lv_if_eq (tgt := 30) hx hb dX9_recover_13 (by decide) (fun c_23 => ?_) (fun c_23 => ?_)
    · have hf := ifp hf c_23
      refine lv_iconst (v := (1 : Int32)) hx hb dX9_recover_30 (by decide) ?_
      refine lv_goto (tgt := 35) hx hb dX9_recover_31 (by decide) ?_
      refine lv_istore_n (lv' := [(1, .int (1 : Int32)), (0, .ref am)]) hx hb dX9_recover_35 rfl hl (by decide) rfl (fun ls hl => ?_)
      refine lv_aload_n hx hb dX9_recover_36 rfl (lv_at hl 1 rfl) ?_
      refine lv_iload_n hx hb dX9_recover_37 rfl (lv_at hl 0 rfl) ?_
      refine lv_if_eq (tgt := 45) hx hb dX9_recover_38 (by decide) (fun c_24 => absurd c_24 (by decide)) (fun c_24 => ?_)
      refine lv_iconst (v := (1 : Int32)) hx hb dX9_recover_41 (by decide) ?_
      refine lv_goto (tgt := 46) hx hb dX9_recover_42 (by decide) ?_
      refine va_put (D := D) (ci := 8) (v := .int (1 : Int32)) (ty := .int) (C := RX9) (T := TX9) (N := 20) hx hb hts iX9 tyX9 tyX9_ok nmX9 hown hK hP hD hS 0 rfl rfl 3 (by decide) (hts (.fieldLink RX9 100 "SampleTrackerModel" "use" "I") (by decide +kernel)) (fun _ h9 => h9) rfl (by decide +kernel) rfl rfl (Nat.le_of_ble_eq_true rfl) dX9_recover_46 (fun H locs hP hD hS => ?_)
      have hP : va_P D vwCl [(am, .inr (8, [.int th, .int mb, .ref mo, .int (1 : Int32), .int me, .int rc, .int (zb dn), .int lf, .int mw, .int mf, .ref m_p, .ref m_w, .ref m_l, .ref m_v, .int ms, .int mu, .long ml, .ref m_r, .int mz, .ref m_q])), (mo, .inl (y 4, 2, .inr (.inr (.inr (.inr (outr m1 m2)))))), (m1, .inl (y 0, nb, .inl c1)), (m2, .inl (y 0, nb, .inl c2)), (m_p, .inl (y 1, 121, .inl mpa)), (m_w, .inl (y 1, 121, .inl mwe)), (m_l, .inl (y 3, 121, .inl mli)), (m_v, .inl (y 2, 121, .inr (.inl mvo))), (m_r, .inl (y 0, 32, .inl mro)), (m_q, .inl (y 1, 260, .inl mpl))] H := hP
      have hD : va_D A [(am, .inr (8, [.int th, .int mb, .ref mo, .int (1 : Int32), .int me, .int rc, .int (zb dn), .int lf, .int mw, .int mf, .ref m_p, .ref m_w, .ref m_l, .ref m_v, .int ms, .int mu, .long ml, .ref m_r, .int mz, .ref m_q])), (mo, .inl (y 4, 2, .inr (.inr (.inr (.inr (outr m1 m2)))))), (m1, .inl (y 0, nb, .inl c1)), (m2, .inl (y 0, nb, .inl c2)), (m_p, .inl (y 1, 121, .inl mpa)), (m_w, .inl (y 1, 121, .inl mwe)), (m_l, .inl (y 3, 121, .inl mli)), (m_v, .inl (y 2, 121, .inr (.inl mvo))), (m_r, .inl (y 0, 32, .inl mro)), (m_q, .inl (y 1, 260, .inl mpl))] := hD
      refine lv_aload_n hx hb dX9_recover_49 rfl (lv_at hl 1 rfl) ?_
      obtain ⟨⟨o_me_25, o_rc_26, o_ms_27, o_mu_28, o_ml_29, o_mpa_30, o_mwe_31, o_mli_32, o_mvo_33, o_mpl_34⟩, hc_35, hf⟩ := obd hf
      refine ct_V (As := []) (rest := []) (wr := []) (wn := [(am, .inr (8, [.int th, .int mb, .ref mo, .int (1 : Int32), .int o_me_25, .int o_rc_26, .int (zb dn), .int lf, .int mw, .int mf, .ref m_p, .ref m_w, .ref m_l, .ref m_v, .int o_ms_27, .int o_mu_28, .long o_ml_29, .ref m_r, .int mz, .ref m_q])), (mo, .inl (y 4, 2, .inr (.inr (.inr (.inr (outr m1 m2)))))), (m1, .inl (y 0, nb, .inl c1)), (m2, .inl (y 0, nb, .inl c2)), (m_p, .inl (y 1, 121, .inl o_mpa_30)), (m_w, .inl (y 1, 121, .inl o_mwe_31)), (m_l, .inl (y 3, 121, .inl o_mli_32)), (m_v, .inl (y 2, 121, .inr (.inl o_mvo_33))), (m_r, .inl (y 0, 32, .inl mro)), (m_q, .inl (y 1, 260, .inl o_mpl_34))]) hfix (cX9_reads_2_ok l D y am mo m1 m2 m_p m_w m_l m_v m_r m_q nb th mb (1 : Int32) me rc dn lf mw mf ms mu ml mz c1 c2 mpa mwe mli mvo mro mpl (by decide) (by decide) _ hc_35) (cwV 0 hts gX9_recover_X9_reads rfl rfl rfl (by decide +kernel) ⟨Nat.le_of_ble_eq_true rfl, Nat.le_of_ble_eq_true rfl⟩) E hP hD hS [0, 1, 2, 3, 4, 5, 6, 7, 8, 9] [] [0, 1, 2, 3, 4, 5, 6, 7, 8, 9] rfl rfl rfl rfl (by decide) rfl rfl 0 8 rfl rfl rfl hl.1 rfl (Nat.le_of_ble_eq_true rfl) dX9_recover_50 ⟨Nat.zero_le _, Nat.zero_le _⟩ (fun H locs hP hD hS => ?_)
      refine W.eq (g2 := F0 m 53 ls []) rfl ?_
      refine lv_aload_n hx hb dX9_recover_53 rfl (lv_at hl 1 rfl) ?_
      refine va_get (D := D) (ci := 8) (v := .int o_me_25) (C := RX9) (T := TX9) (N := 20) hx hb hts iX9 hown hK hP 0 rfl rfl 4 (by decide) (hts (.fieldLink RX9 103 "SampleTrackerModel" "end" "I") (by decide +kernel)) (fun _ h9 => h9) rfl dX9_recover_54 ?_
      refine lv_istore_n (lv' := [(2, .int o_me_25), (1, .int (1 : Int32)), (0, .ref am)]) hx hb dX9_recover_57 rfl hl (by decide) rfl (fun ls hl => ?_)
      exact hL58 FU (1 : Int32) o_me_25 (1 : Int32) o_me_25 o_rc_26 o_ms_27 o_mu_28 o_ml_29 o_mpa_30 o_mwe_31 o_mli_32 o_mvo_33 o_mpl_34 c1 c2 _ _ _ hf hP hD hS (lv_sub hl [2, 1, 0] rfl)
    · have hf := ifn hf c_23
      refine lv_aload_n hx hb dX9_recover_16 rfl (lv_at hl 0 rfl) ?_
      refine lv_iconst (v := (1 : Int32)) hx hb dX9_recover_17 (by decide) ?_
      obtain ⟨r_36, hc_37, hf⟩ := obd hf
      refine ct_V (As := [.int (1 : Int32)]) (rest := []) (wr := []) (wn := [(am, .inr (8, [.int th, .int mb, .ref mo, .int us, .int me, .int rc, .int (zb dn), .int lf, .int mw, .int mf, .ref m_p, .ref m_w, .ref m_l, .ref m_v, .int ms, .int mu, .long ml, .ref m_r, .int mz, .ref m_q])), (mo, .inl (y 4, 2, .inr (.inr (.inr (.inr (outr m1 m2)))))), (m1, .inl (y 0, nb, .inl c1)), (m2, .inl (y 0, nb, .inl c2)), (m_p, .inl (y 1, 121, .inl mpa)), (m_w, .inl (y 1, 121, .inl mwe)), (m_l, .inl (y 3, 121, .inl mli)), (m_v, .inl (y 2, 121, .inr (.inl mvo))), (m_r, .inl (y 0, 32, .inl mro)), (m_q, .inl (y 1, 260, .inl mpl))]) hfix (cX9_generation_ok l D y am mo m1 m2 m_p m_w m_l m_v m_r m_q nb th mb us me rc dn lf mw mf ms mu ml mz c1 c2 mpa mwe mli mvo mro mpl (1 : Int32) _ hc_37) (cwV 1 hts gX9_recover_X9_generation rfl rfl rfl (by decide +kernel) ⟨Nat.le_of_ble_eq_true rfl, Nat.le_of_ble_eq_true rfl⟩) E hP hD hS [0, 1, 2, 3, 4, 5, 6, 7, 8, 9] [] [0, 1, 2, 3, 4, 5, 6, 7, 8, 9] rfl rfl rfl rfl (by decide) rfl rfl 0 8 rfl rfl rfl hl.1 rfl (Nat.le_of_ble_eq_true rfl) dX9_recover_18 ⟨Nat.zero_le _, Nat.zero_le _⟩ (fun H locs hP hD hS => ?_)
      refine W.eq (g2 := F0 m 21 ls [.long r_36]) rfl ?_
      refine lv_aload_n hx hb dX9_recover_21 rfl (lv_at hl 0 rfl) ?_
      refine lv_iconst (v := (0 : Int32)) hx hb dX9_recover_22 (by decide) ?_
      obtain ⟨r_38, hc_39, hf⟩ := obd hf
      refine ct_V (As := [.int (0 : Int32)]) (rest := [.long r_36]) (wr := []) (wn := [(am, .inr (8, [.int th, .int mb, .ref mo, .int us, .int me, .int rc, .int (zb dn), .int lf, .int mw, .int mf, .ref m_p, .ref m_w, .ref m_l, .ref m_v, .int ms, .int mu, .long ml, .ref m_r, .int mz, .ref m_q])), (mo, .inl (y 4, 2, .inr (.inr (.inr (.inr (outr m1 m2)))))), (m1, .inl (y 0, nb, .inl c1)), (m2, .inl (y 0, nb, .inl c2)), (m_p, .inl (y 1, 121, .inl mpa)), (m_w, .inl (y 1, 121, .inl mwe)), (m_l, .inl (y 3, 121, .inl mli)), (m_v, .inl (y 2, 121, .inr (.inl mvo))), (m_r, .inl (y 0, 32, .inl mro)), (m_q, .inl (y 1, 260, .inl mpl))]) hfix (cX9_generation_ok l D y am mo m1 m2 m_p m_w m_l m_v m_r m_q nb th mb us me rc dn lf mw mf ms mu ml mz c1 c2 mpa mwe mli mvo mro mpl (0 : Int32) _ hc_39) (cwV 1 hts gX9_recover_X9_generation rfl rfl rfl (by decide +kernel) ⟨Nat.le_of_ble_eq_true rfl, Nat.le_of_ble_eq_true rfl⟩) E hP hD hS [0, 1, 2, 3, 4, 5, 6, 7, 8, 9] [] [0, 1, 2, 3, 4, 5, 6, 7, 8, 9] rfl rfl rfl rfl (by decide) rfl rfl 0 8 rfl rfl rfl hl.1 rfl (Nat.le_of_ble_eq_true rfl) dX9_recover_23 ⟨Nat.zero_le _, Nat.zero_le _⟩ (fun H locs hP hD hS => ?_)
      refine W.eq (g2 := F0 m 26 ls [.long r_38, .long r_36]) rfl ?_
      refine W.lcmp hx hb dX9_recover_26 ?_
      refine lv_if_le (tgt := 34) hx hb dX9_recover_27 (by decide) (fun c_40 => ?_) (fun c_40 => ?_)
      · have hf := ifp hf c_40
        refine lv_iconst (v := (0 : Int32)) hx hb dX9_recover_34 (by decide) ?_
        refine lv_istore_n (lv' := [(1, .int (0 : Int32)), (0, .ref am)]) hx hb dX9_recover_35 rfl hl (by decide) rfl (fun ls hl => ?_)
        refine lv_aload_n hx hb dX9_recover_36 rfl (lv_at hl 1 rfl) ?_
        refine lv_iload_n hx hb dX9_recover_37 rfl (lv_at hl 0 rfl) ?_
        refine lv_if_eq (tgt := 45) hx hb dX9_recover_38 (by decide) (fun c_41 => ?_) (fun c_41 => absurd (by decide) c_41)
        refine lv_iconst (v := (0 : Int32)) hx hb dX9_recover_45 (by decide) ?_
        refine va_put (D := D) (ci := 8) (v := .int (0 : Int32)) (ty := .int) (C := RX9) (T := TX9) (N := 20) hx hb hts iX9 tyX9 tyX9_ok nmX9 hown hK hP hD hS 0 rfl rfl 3 (by decide) (hts (.fieldLink RX9 100 "SampleTrackerModel" "use" "I") (by decide +kernel)) (fun _ h9 => h9) rfl (by decide +kernel) rfl rfl (Nat.le_of_ble_eq_true rfl) dX9_recover_46 (fun H locs hP hD hS => ?_)
        have hP : va_P D vwCl [(am, .inr (8, [.int th, .int mb, .ref mo, .int (0 : Int32), .int me, .int rc, .int (zb dn), .int lf, .int mw, .int mf, .ref m_p, .ref m_w, .ref m_l, .ref m_v, .int ms, .int mu, .long ml, .ref m_r, .int mz, .ref m_q])), (mo, .inl (y 4, 2, .inr (.inr (.inr (.inr (outr m1 m2)))))), (m1, .inl (y 0, nb, .inl c1)), (m2, .inl (y 0, nb, .inl c2)), (m_p, .inl (y 1, 121, .inl mpa)), (m_w, .inl (y 1, 121, .inl mwe)), (m_l, .inl (y 3, 121, .inl mli)), (m_v, .inl (y 2, 121, .inr (.inl mvo))), (m_r, .inl (y 0, 32, .inl mro)), (m_q, .inl (y 1, 260, .inl mpl))] H := hP
        have hD : va_D A [(am, .inr (8, [.int th, .int mb, .ref mo, .int (0 : Int32), .int me, .int rc, .int (zb dn), .int lf, .int mw, .int mf, .ref m_p, .ref m_w, .ref m_l, .ref m_v, .int ms, .int mu, .long ml, .ref m_r, .int mz, .ref m_q])), (mo, .inl (y 4, 2, .inr (.inr (.inr (.inr (outr m1 m2)))))), (m1, .inl (y 0, nb, .inl c1)), (m2, .inl (y 0, nb, .inl c2)), (m_p, .inl (y 1, 121, .inl mpa)), (m_w, .inl (y 1, 121, .inl mwe)), (m_l, .inl (y 3, 121, .inl mli)), (m_v, .inl (y 2, 121, .inr (.inl mvo))), (m_r, .inl (y 0, 32, .inl mro)), (m_q, .inl (y 1, 260, .inl mpl))] := hD
        refine lv_aload_n hx hb dX9_recover_49 rfl (lv_at hl 1 rfl) ?_
        obtain ⟨⟨o_me_42, o_rc_43, o_ms_44, o_mu_45, o_ml_46, o_mpa_47, o_mwe_48, o_mli_49, o_mvo_50, o_mpl_51⟩, hc_52, hf⟩ := obd hf
        refine ct_V (As := []) (rest := []) (wr := []) (wn := [(am, .inr (8, [.int th, .int mb, .ref mo, .int (0 : Int32), .int o_me_42, .int o_rc_43, .int (zb dn), .int lf, .int mw, .int mf, .ref m_p, .ref m_w, .ref m_l, .ref m_v, .int o_ms_44, .int o_mu_45, .long o_ml_46, .ref m_r, .int mz, .ref m_q])), (mo, .inl (y 4, 2, .inr (.inr (.inr (.inr (outr m1 m2)))))), (m1, .inl (y 0, nb, .inl c1)), (m2, .inl (y 0, nb, .inl c2)), (m_p, .inl (y 1, 121, .inl o_mpa_47)), (m_w, .inl (y 1, 121, .inl o_mwe_48)), (m_l, .inl (y 3, 121, .inl o_mli_49)), (m_v, .inl (y 2, 121, .inr (.inl o_mvo_50))), (m_r, .inl (y 0, 32, .inl mro)), (m_q, .inl (y 1, 260, .inl o_mpl_51))]) hfix (cX9_reads_1_ok l D y am mo m1 m2 m_p m_w m_l m_v m_r m_q nb th mb (0 : Int32) me rc dn lf mw mf ms mu ml mz c1 c2 mpa mwe mli mvo mro mpl (by decide) _ hc_52) (cwV 0 hts gX9_recover_X9_reads rfl rfl rfl (by decide +kernel) ⟨Nat.le_of_ble_eq_true rfl, Nat.le_of_ble_eq_true rfl⟩) E hP hD hS [0, 1, 2, 3, 4, 5, 6, 7, 8, 9] [] [0, 1, 2, 3, 4, 5, 6, 7, 8, 9] rfl rfl rfl rfl (by decide) rfl rfl 0 8 rfl rfl rfl hl.1 rfl (Nat.le_of_ble_eq_true rfl) dX9_recover_50 ⟨Nat.zero_le _, Nat.zero_le _⟩ (fun H locs hP hD hS => ?_)
        refine W.eq (g2 := F0 m 53 ls []) rfl ?_
        refine lv_aload_n hx hb dX9_recover_53 rfl (lv_at hl 1 rfl) ?_
        refine va_get (D := D) (ci := 8) (v := .int o_me_42) (C := RX9) (T := TX9) (N := 20) hx hb hts iX9 hown hK hP 0 rfl rfl 4 (by decide) (hts (.fieldLink RX9 103 "SampleTrackerModel" "end" "I") (by decide +kernel)) (fun _ h9 => h9) rfl dX9_recover_54 ?_
        refine lv_istore_n (lv' := [(2, .int o_me_42), (1, .int (0 : Int32)), (0, .ref am)]) hx hb dX9_recover_57 rfl hl (by decide) rfl (fun ls hl => ?_)
        exact hL58 FU (0 : Int32) o_me_42 (0 : Int32) o_me_42 o_rc_43 o_ms_44 o_mu_45 o_ml_46 o_mpa_47 o_mwe_48 o_mli_49 o_mvo_50 o_mpl_51 c1 c2 _ _ _ hf hP hD hS (lv_sub hl [2, 1, 0] rfl)
      · have hf := ifn hf c_40
        refine lv_iconst (v := (1 : Int32)) hx hb dX9_recover_30 (by decide) ?_
        refine lv_goto (tgt := 35) hx hb dX9_recover_31 (by decide) ?_
        refine lv_istore_n (lv' := [(1, .int (1 : Int32)), (0, .ref am)]) hx hb dX9_recover_35 rfl hl (by decide) rfl (fun ls hl => ?_)
        refine lv_aload_n hx hb dX9_recover_36 rfl (lv_at hl 1 rfl) ?_
        refine lv_iload_n hx hb dX9_recover_37 rfl (lv_at hl 0 rfl) ?_
        refine lv_if_eq (tgt := 45) hx hb dX9_recover_38 (by decide) (fun c_53 => absurd c_53 (by decide)) (fun c_53 => ?_)
        refine lv_iconst (v := (1 : Int32)) hx hb dX9_recover_41 (by decide) ?_
        refine lv_goto (tgt := 46) hx hb dX9_recover_42 (by decide) ?_
        refine va_put (D := D) (ci := 8) (v := .int (1 : Int32)) (ty := .int) (C := RX9) (T := TX9) (N := 20) hx hb hts iX9 tyX9 tyX9_ok nmX9 hown hK hP hD hS 0 rfl rfl 3 (by decide) (hts (.fieldLink RX9 100 "SampleTrackerModel" "use" "I") (by decide +kernel)) (fun _ h9 => h9) rfl (by decide +kernel) rfl rfl (Nat.le_of_ble_eq_true rfl) dX9_recover_46 (fun H locs hP hD hS => ?_)
        have hP : va_P D vwCl [(am, .inr (8, [.int th, .int mb, .ref mo, .int (1 : Int32), .int me, .int rc, .int (zb dn), .int lf, .int mw, .int mf, .ref m_p, .ref m_w, .ref m_l, .ref m_v, .int ms, .int mu, .long ml, .ref m_r, .int mz, .ref m_q])), (mo, .inl (y 4, 2, .inr (.inr (.inr (.inr (outr m1 m2)))))), (m1, .inl (y 0, nb, .inl c1)), (m2, .inl (y 0, nb, .inl c2)), (m_p, .inl (y 1, 121, .inl mpa)), (m_w, .inl (y 1, 121, .inl mwe)), (m_l, .inl (y 3, 121, .inl mli)), (m_v, .inl (y 2, 121, .inr (.inl mvo))), (m_r, .inl (y 0, 32, .inl mro)), (m_q, .inl (y 1, 260, .inl mpl))] H := hP
        have hD : va_D A [(am, .inr (8, [.int th, .int mb, .ref mo, .int (1 : Int32), .int me, .int rc, .int (zb dn), .int lf, .int mw, .int mf, .ref m_p, .ref m_w, .ref m_l, .ref m_v, .int ms, .int mu, .long ml, .ref m_r, .int mz, .ref m_q])), (mo, .inl (y 4, 2, .inr (.inr (.inr (.inr (outr m1 m2)))))), (m1, .inl (y 0, nb, .inl c1)), (m2, .inl (y 0, nb, .inl c2)), (m_p, .inl (y 1, 121, .inl mpa)), (m_w, .inl (y 1, 121, .inl mwe)), (m_l, .inl (y 3, 121, .inl mli)), (m_v, .inl (y 2, 121, .inr (.inl mvo))), (m_r, .inl (y 0, 32, .inl mro)), (m_q, .inl (y 1, 260, .inl mpl))] := hD
        refine lv_aload_n hx hb dX9_recover_49 rfl (lv_at hl 1 rfl) ?_
        obtain ⟨⟨o_me_54, o_rc_55, o_ms_56, o_mu_57, o_ml_58, o_mpa_59, o_mwe_60, o_mli_61, o_mvo_62, o_mpl_63⟩, hc_64, hf⟩ := obd hf
        refine ct_V (As := []) (rest := []) (wr := []) (wn := [(am, .inr (8, [.int th, .int mb, .ref mo, .int (1 : Int32), .int o_me_54, .int o_rc_55, .int (zb dn), .int lf, .int mw, .int mf, .ref m_p, .ref m_w, .ref m_l, .ref m_v, .int o_ms_56, .int o_mu_57, .long o_ml_58, .ref m_r, .int mz, .ref m_q])), (mo, .inl (y 4, 2, .inr (.inr (.inr (.inr (outr m1 m2)))))), (m1, .inl (y 0, nb, .inl c1)), (m2, .inl (y 0, nb, .inl c2)), (m_p, .inl (y 1, 121, .inl o_mpa_59)), (m_w, .inl (y 1, 121, .inl o_mwe_60)), (m_l, .inl (y 3, 121, .inl o_mli_61)), (m_v, .inl (y 2, 121, .inr (.inl o_mvo_62))), (m_r, .inl (y 0, 32, .inl mro)), (m_q, .inl (y 1, 260, .inl o_mpl_63))]) hfix (cX9_reads_2_ok l D y am mo m1 m2 m_p m_w m_l m_v m_r m_q nb th mb (1 : Int32) me rc dn lf mw mf ms mu ml mz c1 c2 mpa mwe mli mvo mro mpl (by decide) (by decide) _ hc_64) (cwV 0 hts gX9_recover_X9_reads rfl rfl rfl (by decide +kernel) ⟨Nat.le_of_ble_eq_true rfl, Nat.le_of_ble_eq_true rfl⟩) E hP hD hS [0, 1, 2, 3, 4, 5, 6, 7, 8, 9] [] [0, 1, 2, 3, 4, 5, 6, 7, 8, 9] rfl rfl rfl rfl (by decide) rfl rfl 0 8 rfl rfl rfl hl.1 rfl (Nat.le_of_ble_eq_true rfl) dX9_recover_50 ⟨Nat.zero_le _, Nat.zero_le _⟩ (fun H locs hP hD hS => ?_)
        refine W.eq (g2 := F0 m 53 ls []) rfl ?_
        refine lv_aload_n hx hb dX9_recover_53 rfl (lv_at hl 1 rfl) ?_
        refine va_get (D := D) (ci := 8) (v := .int o_me_54) (C := RX9) (T := TX9) (N := 20) hx hb hts iX9 hown hK hP 0 rfl rfl 4 (by decide) (hts (.fieldLink RX9 103 "SampleTrackerModel" "end" "I") (by decide +kernel)) (fun _ h9 => h9) rfl dX9_recover_54 ?_
        refine lv_istore_n (lv' := [(2, .int o_me_54), (1, .int (1 : Int32)), (0, .ref am)]) hx hb dX9_recover_57 rfl hl (by decide) rfl (fun ls hl => ?_)
        exact hL58 FU (1 : Int32) o_me_54 (1 : Int32) o_me_54 o_rc_55 o_ms_56 o_mu_57 o_ml_58 o_mpa_59 o_mwe_60 o_mli_61 o_mvo_62 o_mpl_63 c1 c2 _ _ _ hf hP hD hS (lv_sub hl [2, 1, 0] rfl)

def fX9_compact_114 (nb : Nat) (mb : Int32) (us : Int32) (me : Int32) (rc : Int32) (ms : Int32) (mu : Int32) (ml : Int64) (mpa : Nat → Int32) (mwe : Nat → Int32) (mli : Nat → Int32) (mvo : Nat → Int64) (mpl : Nat → Int32) : Nat → Int32 → Int32 → Int32 → Bool → Int32 → Int32 → Int32 → Int32 → (Nat → Int32) → (Nat → Int32) → (Nat → Int32) → Option (Int32 × Int32 × Int32 × Int32 × Bool × Int32 × Int32 × Int32 × Int32 × Int32 × Int64 × Int32 × (Nat → Int32) × (Nat → Int32) × (Nat → Int32) × (Nat → Int32) × (Nat → Int32) × (Nat → Int64) × (Nat → Int32) × (Nat → Int32))
  | 0, _, _, _, _, _, _, _, _, _, _, _ => none
  | n114 + 1, v114_0, v114_1, v114_2, v114_3, v114_4, v114_5, v114_6, v114_7, v114_8, v114_9, v114_10 => (if ms < v114_2 then ((fX9_generation nb v114_8 v114_9 us).bind fun r_2 => ((fX9_u4 (0 : Int32) v114_10 ((r_2.toInt32) + (1 : Int32))).bind fun (o_mz_4, o_mro_5) => ((fX9_crc 32 o_mro_5 (0 : Int32) (4 : Int32)).bind fun r_7 => ((fX9_u4 o_mz_4 o_mro_5 r_7).bind fun (o_mz_9, o_mro_10) => ((fX9_u1 o_mz_9 o_mro_10 (165 : Int32)).bind fun (o_mz_12, o_mro_13) => ((fX9_writeRow nb v114_3 v114_4 v114_5 v114_6 o_mz_12 v114_8 v114_9 o_mro_13 v114_0 (0 : Int32)).bind fun (r_15, o_dn_16, o_lf_17, o_mw_18, o_mf_19, o_c1_20, o_c2_21) => (if (zb r_15) = 0 then some ((-1 : Int32), us, me, rc, o_dn_16, o_lf_17, o_mw_18, o_mf_19, ms, mu, ml, o_mz_12, o_c1_20, o_c2_21, mpa, mwe, mli, mvo, o_mro_13, mpl) else (if v114_0 = 0 then ((fX9_reads_1 nb mb v114_0 o_c1_20 o_c2_21 mpa mwe mli mvo mpl).bind fun (o_me_26, o_rc_27, o_ms_28, o_mu_29, o_ml_30, o_mpa_31, o_mwe_32, o_mli_33, o_mvo_34, o_mpl_35) => some ((0 : Int32), v114_0, o_me_26, o_rc_27, o_dn_16, o_lf_17, o_mw_18, o_mf_19, o_ms_28, o_mu_29, o_ml_30, o_mz_12, o_c1_20, o_c2_21, o_mpa_31, o_mwe_32, o_mli_33, o_mvo_34, o_mro_13, o_mpl_35)) else if v114_0 = 1 then ((fX9_reads_2 nb mb v114_0 o_c1_20 o_c2_21 mpa mwe mli mvo mpl).bind fun (o_me_37, o_rc_38, o_ms_39, o_mu_40, o_ml_41, o_mpa_42, o_mwe_43, o_mli_44, o_mvo_45, o_mpl_46) => some ((0 : Int32), v114_0, o_me_37, o_rc_38, o_dn_16, o_lf_17, o_mw_18, o_mf_19, o_ms_39, o_mu_40, o_ml_41, o_mz_12, o_c1_20, o_c2_21, o_mpa_42, o_mwe_43, o_mli_44, o_mvo_45, o_mro_13, o_mpl_46)) else none)))))))) else ((fX9_begin v114_10 (6 : Int32)).bind fun (o_mz_48, o_mro_49) => (if (ib v114_2 121) = true then ((fX9_u2 o_mz_48 o_mro_49 (mpa v114_2.toNatClampNeg)).bind fun (o_mz_52, o_mro_53) => (if (mli v114_2.toNatClampNeg) = 0 then ((fX9_u1 o_mz_52 o_mro_53 (255 : Int32)).bind fun (o_mz_57, o_mro_58) => ((fX9_u8 o_mz_57 o_mro_58 (mvo v114_2.toNatClampNeg)).bind fun (o_mz_61, o_mro_62) => ((fX9_checked o_mz_61 o_mro_62).bind fun (o_mz_64, o_mro_65) => ((fX9_writeRow nb v114_3 v114_4 v114_5 v114_6 o_mz_64 v114_8 v114_9 o_mro_65 v114_0 v114_1).bind fun (r_67, o_dn_68, o_lf_69, o_mw_70, o_mf_71, o_c1_72, o_c2_73) => (if (zb r_67) = 0 then some ((-1 : Int32), us, me, rc, o_dn_68, o_lf_69, o_mw_70, o_mf_71, ms, mu, ml, o_mz_64, o_c1_72, o_c2_73, mpa, mwe, mli, mvo, o_mro_65, mpl) else fX9_compact_114 nb mb us me rc ms mu ml mpa mwe mli mvo mpl n114 v114_0 (v114_1 + o_mz_64) (v114_2 + (1 : Int32)) o_dn_68 o_lf_69 o_mw_70 o_mf_71 o_mz_64 o_c1_72 o_c2_73 o_mro_65))))) else ((fX9_u1 o_mz_52 o_mro_53 (mwe v114_2.toNatClampNeg)).bind fun (o_mz_77, o_mro_78) => ((fX9_u8 o_mz_77 o_mro_78 (mvo v114_2.toNatClampNeg)).bind fun (o_mz_81, o_mro_82) => ((fX9_checked o_mz_81 o_mro_82).bind fun (o_mz_84, o_mro_85) => ((fX9_writeRow nb v114_3 v114_4 v114_5 v114_6 o_mz_84 v114_8 v114_9 o_mro_85 v114_0 v114_1).bind fun (r_87, o_dn_88, o_lf_89, o_mw_90, o_mf_91, o_c1_92, o_c2_93) => (if (zb r_87) = 0 then some ((-1 : Int32), us, me, rc, o_dn_88, o_lf_89, o_mw_90, o_mf_91, ms, mu, ml, o_mz_84, o_c1_92, o_c2_93, mpa, mwe, mli, mvo, o_mro_85, mpl) else fX9_compact_114 nb mb us me rc ms mu ml mpa mwe mli mvo mpl n114 v114_0 (v114_1 + o_mz_84) (v114_2 + (1 : Int32)) o_dn_88 o_lf_89 o_mw_90 o_mf_91 o_mz_84 o_c1_92 o_c2_93 o_mro_85))))))) else none)))

def fX9_compact_47 (nb : Nat) (mb : Int32) (us : Int32) (me : Int32) (rc : Int32) (ms : Int32) (mu : Int32) (ml : Int64) (mz : Int32) (mpa : Nat → Int32) (mwe : Nat → Int32) (mli : Nat → Int32) (mvo : Nat → Int64) (mro : Nat → Int32) (mpl : Nat → Int32) : Nat → Int32 → Int32 → Bool → Int32 → Int32 → Int32 → (Nat → Int32) → (Nat → Int32) → Option (Int32 × Int32 × Int32 × Int32 × Bool × Int32 × Int32 × Int32 × Int32 × Int32 × Int64 × Int32 × (Nat → Int32) × (Nat → Int32) × (Nat → Int32) × (Nat → Int32) × (Nat → Int32) × (Nat → Int64) × (Nat → Int32) × (Nat → Int32))
  | 0, _, _, _, _, _, _, _, _ => none
  | n47 + 1, v47_0, v47_1, v47_2, v47_3, v47_4, v47_5, v47_6, v47_7 => (if mb ≤ v47_1 then ((fX9_begin mro (7 : Int32)).bind fun (o_mz_97, o_mro_98) => ((fX9_u8 o_mz_97 o_mro_98 ml).bind fun (o_mz_100, o_mro_101) => ((fX9_checked o_mz_100 o_mro_101).bind fun (o_mz_103, o_mro_104) => ((fX9_writeRow nb v47_2 v47_3 v47_4 v47_5 o_mz_103 v47_6 v47_7 o_mro_104 v47_0 (9 : Int32)).bind fun (r_106, o_dn_107, o_lf_108, o_mw_109, o_mf_110, o_c1_111, o_c2_112) => (if (zb r_106) = 0 then some ((-1 : Int32), us, me, rc, o_dn_107, o_lf_108, o_mw_109, o_mf_110, ms, mu, ml, o_mz_103, o_c1_111, o_c2_112, mpa, mwe, mli, mvo, o_mro_104, mpl) else fX9_compact_114 nb mb us me rc ms mu ml mpa mwe mli mvo mpl FU v47_0 ((9 : Int32) + o_mz_103) (1 : Int32) o_dn_107 o_lf_108 o_mw_109 o_mf_110 o_mz_103 o_c1_111 o_c2_112 o_mro_104))))) else ((fX9_write nb v47_2 v47_3 v47_4 v47_5 v47_6 v47_7 v47_0 v47_1 (0 : Int32)).bind fun (r_115, o_dn_116, o_lf_117, o_mw_118, o_mf_119, o_c1_120, o_c2_121) => (if (zb r_115) = 0 then some ((-1 : Int32), us, me, rc, o_dn_116, o_lf_117, o_mw_118, o_mf_119, ms, mu, ml, mz, o_c1_120, o_c2_121, mpa, mwe, mli, mvo, mro, mpl) else fX9_compact_47 nb mb us me rc ms mu ml mz mpa mwe mli mvo mro mpl n47 v47_0 (v47_1 + (1 : Int32)) o_dn_116 o_lf_117 o_mw_118 o_mf_119 o_c1_120 o_c2_121)))

def fX9_compact (nb : Nat) (mb : Int32) (us : Int32) (me : Int32) (rc : Int32) (dn : Bool) (lf : Int32) (mw : Int32) (mf : Int32) (ms : Int32) (mu : Int32) (ml : Int64) (mz : Int32) (c1 : Nat → Int32) (c2 : Nat → Int32) (mpa : Nat → Int32) (mwe : Nat → Int32) (mli : Nat → Int32) (mvo : Nat → Int64) (mro : Nat → Int32) (mpl : Nat → Int32) : Option (Int32 × Int32 × Int32 × Int32 × Bool × Int32 × Int32 × Int32 × Int32 × Int32 × Int64 × Int32 × (Nat → Int32) × (Nat → Int32) × (Nat → Int32) × (Nat → Int32) × (Nat → Int32) × (Nat → Int64) × (Nat → Int32) × (Nat → Int32)) := (if (zb dn) = 0 then ((fX9_lengthOf (7 : Int32)).bind fun r_125 => ((fX9_lengthOf (6 : Int32)).bind fun r_127 => (if (((9 : Int32) + r_125) + (ms * r_127)) ≤ mb then fX9_compact_47 nb mb us me rc ms mu ml mz mpa mwe mli mvo mro mpl FU ((1 : Int32) - us) (0 : Int32) dn lf mw mf c1 c2 else some ((-6 : Int32), us, me, rc, dn, lf, mw, mf, ms, mu, ml, mz, c1, c2, mpa, mwe, mli, mvo, mro, mpl)))) else some ((-1 : Int32), us, me, rc, dn, lf, mw, mf, ms, mu, ml, mz, c1, c2, mpa, mwe, mli, mvo, mro, mpl))

set_option maxHeartbeats 4000000 in
set_option maxRecDepth 100000 in
theorem cX9_compact_ok (l : Launch) (D : va_G) (y : Nat → ClassId) (am : Nat) (mo : Nat) (m1 : Nat) (m2 : Nat) (m_p : Nat) (m_w : Nat) (m_l : Nat) (m_v : Nat) (m_r : Nat) (m_q : Nat) (nb : Nat) (th : Int32) (mb : Int32) (us : Int32) (me : Int32) (rc : Int32) (dn : Bool) (lf : Int32) (mw : Int32) (mf : Int32) (ms : Int32) (mu : Int32) (ml : Int64) (mz : Int32) (c1 : Nat → Int32) (c2 : Nat → Int32) (mpa : Nat → Int32) (mwe : Nat → Int32) (mli : Nat → Int32) (mvo : Nat → Int64) (mro : Nat → Int32) (mpl : Nat → Int32) (res : Int32 × Int32 × Int32 × Int32 × Bool × Int32 × Int32 × Int32 × Int32 × Int32 × Int64 × Int32 × (Nat → Int32) × (Nat → Int32) × (Nat → Int32) × (Nat → Int32) × (Nat → Int32) × (Nat → Int64) × (Nat → Int32) × (Nat → Int32)) (hf : fX9_compact nb mb us me rc dn lf mw mf ms mu ml mz c1 c2 mpa mwe mli mvo mro mpl = some res) : CT l D y yX9_compact wsX9_compact ({ frames := 4, cells := 0, slots := 0, locals := 85 } : Room) [.ref am] [(am, .inr (8, [.int th, .int mb, .ref mo, .int us, .int me, .int rc, .int (zb dn), .int lf, .int mw, .int mf, .ref m_p, .ref m_w, .ref m_l, .ref m_v, .int ms, .int mu, .long ml, .ref m_r, .int mz, .ref m_q])), (mo, .inl (y 4, 2, .inr (.inr (.inr (.inr (outr m1 m2)))))), (m1, .inl (y 0, nb, .inl c1)), (m2, .inl (y 0, nb, .inl c2)), (m_p, .inl (y 1, 121, .inl mpa)), (m_w, .inl (y 1, 121, .inl mwe)), (m_l, .inl (y 3, 121, .inl mli)), (m_v, .inl (y 2, 121, .inr (.inl mvo))), (m_r, .inl (y 0, 32, .inl mro)), (m_q, .inl (y 1, 260, .inl mpl))] (some (.int res.1)) [(am, .inr (8, [.int th, .int mb, .ref mo, .int res.2.1, .int res.2.2.1, .int res.2.2.2.1, .int (zb res.2.2.2.2.1), .int res.2.2.2.2.2.1, .int res.2.2.2.2.2.2.1, .int res.2.2.2.2.2.2.2.1, .ref m_p, .ref m_w, .ref m_l, .ref m_v, .int res.2.2.2.2.2.2.2.2.1, .int res.2.2.2.2.2.2.2.2.2.1, .long res.2.2.2.2.2.2.2.2.2.2.1, .ref m_r, .int res.2.2.2.2.2.2.2.2.2.2.2.1, .ref m_q])), (mo, .inl (y 4, 2, .inr (.inr (.inr (.inr (outr m1 m2)))))), (m1, .inl (y 0, nb, .inl res.2.2.2.2.2.2.2.2.2.2.2.2.1)), (m2, .inl (y 0, nb, .inl res.2.2.2.2.2.2.2.2.2.2.2.2.2.1)), (m_p, .inl (y 1, 121, .inl res.2.2.2.2.2.2.2.2.2.2.2.2.2.2.1)), (m_w, .inl (y 1, 121, .inl res.2.2.2.2.2.2.2.2.2.2.2.2.2.2.2.1)), (m_l, .inl (y 3, 121, .inl res.2.2.2.2.2.2.2.2.2.2.2.2.2.2.2.2.1)), (m_v, .inl (y 2, 121, .inr (.inl res.2.2.2.2.2.2.2.2.2.2.2.2.2.2.2.2.2.1))), (m_r, .inl (y 0, 32, .inl res.2.2.2.2.2.2.2.2.2.2.2.2.2.2.2.2.2.2.1)), (m_q, .inl (y 1, 260, .inl res.2.2.2.2.2.2.2.2.2.2.2.2.2.2.2.2.2.2.2))] := by
  intro sz
  refine Met.ofW (cc := cX9_compact) (maxL := 4) (ret := (some .int)) (by decide) rfl ?_
  intro p e s m args below meth c s₁ B hml hv
  obtain ⟨rfl, hsz, hP, hK, hD0, hst, hno⟩ := hv
  have hx := B.exec
  have hb := B.bytes
  have hr := B.returns
  have hts := atoms_spec (ws := wsX9_compact) B.pre
  have hown : s.vm.findClass RX9 = some m.cls := findClass_of_methodNamed B.named
  have hlocks := B.notSynchronized
  subst hsz
  have hD := hD0.self (sz := s.heap.size)
  generalize hAe : va_A [(am, .inr (8, [.int th, .int mb, .ref mo, .int us, .int me, .int rc, .int (zb dn), .int lf, .int mw, .int mf, .ref m_p, .ref m_w, .ref m_l, .ref m_v, .int ms, .int mu, .long ml, .ref m_r, .int mz, .ref m_q])), (mo, .inl (y 4, 2, .inr (.inr (.inr (.inr (outr m1 m2)))))), (m1, .inl (y 0, nb, .inl c1)), (m2, .inl (y 0, nb, .inl c2)), (m_p, .inl (y 1, 121, .inl mpa)), (m_w, .inl (y 1, 121, .inl mwe)), (m_l, .inl (y 3, 121, .inl mli)), (m_v, .inl (y 2, 121, .inr (.inl mvo))), (m_r, .inl (y 0, 32, .inl mro)), (m_q, .inl (y 1, 260, .inl mpl))] s.heap.size = A at hD hst ⊢
  have hA : ∀ q : Nat, s.heap.size ≤ q → A q := fun q h => by rw [← hAe]; exact Or.inr h
  have hS : va_S A s.heap s.heap [] := va_S.rf
  have E : Ev D y A s := ⟨hK, hst, hno, hA⟩
  have hfix : CallFix p m c cX9_compact 4 s _ wsX9_compact RX9 := ⟨hx, hb, hml, hown, hts⟩
  have hP : va_P D vwCl [(am, .inr (8, [.int th, .int mb, .ref mo, .int us, .int me, .int rc, .int (zb dn), .int lf, .int mw, .int mf, .ref m_p, .ref m_w, .ref m_l, .ref m_v, .int ms, .int mu, .long ml, .ref m_r, .int mz, .ref m_q])), (mo, .inl (y 4, 2, .inr (.inr (.inr (.inr (outr m1 m2)))))), (m1, .inl (y 0, nb, .inl c1)), (m2, .inl (y 0, nb, .inl c2)), (m_p, .inl (y 1, 121, .inl mpa)), (m_w, .inl (y 1, 121, .inl mwe)), (m_l, .inl (y 3, 121, .inl mli)), (m_v, .inl (y 2, 121, .inr (.inl mvo))), (m_r, .inl (y 0, 32, .inl mro)), (m_q, .inl (y 1, 260, .inl mpl))] s.heap := hP
  have iX9 : ∀ w ∈ wsX90, w ∈ wsX9_compact := by decide +kernel
  have hl := lv_entry ([.ref am]) (n := 4) (Nat.le_of_ble_eq_true rfl)
  rw [lg_entry_eq]
  generalize (lg_sl ([.ref am]) ++ List.replicate (4 - (lg_sl ([.ref am])).length) Slot.unset).toArray = ls at hl ⊢
  have hl : lv_has ls 4 [(0, .ref am)] := hl
  have hL114 : ∀ (n114 : Nat) (v114_0 : Int32) (v114_1 : Int32) (v114_2 : Int32) (v114_3 : Bool) (v114_4 : Int32) (v114_5 : Int32) (v114_6 : Int32) (v114_7 : Int32) (v114_8 : Nat → Int32) (v114_9 : Nat → Int32) (v114_10 : Nat → Int32) (H : Heap) (locs : List Loc) (ls : Array Slot), fX9_compact_114 nb mb us me rc ms mu ml mpa mwe mli mvo mpl n114 v114_0 v114_1 v114_2 v114_3 v114_4 v114_5 v114_6 v114_7 v114_8 v114_9 v114_10 = some res → va_P D vwCl [(am, .inr (8, [.int th, .int mb, .ref mo, .int us, .int me, .int rc, .int (zb v114_3), .int v114_4, .int v114_5, .int v114_6, .ref m_p, .ref m_w, .ref m_l, .ref m_v, .int ms, .int mu, .long ml, .ref m_r, .int v114_7, .ref m_q])), (mo, .inl (y 4, 2, .inr (.inr (.inr (.inr (outr m1 m2)))))), (m1, .inl (y 0, nb, .inl v114_8)), (m2, .inl (y 0, nb, .inl v114_9)), (m_p, .inl (y 1, 121, .inl mpa)), (m_w, .inl (y 1, 121, .inl mwe)), (m_l, .inl (y 3, 121, .inl mli)), (m_v, .inl (y 2, 121, .inr (.inl mvo))), (m_r, .inl (y 0, 32, .inl v114_10)), (m_q, .inl (y 1, 260, .inl mpl))] H → va_D A [(am, .inr (8, [.int th, .int mb, .ref mo, .int us, .int me, .int rc, .int (zb v114_3), .int v114_4, .int v114_5, .int v114_6, .ref m_p, .ref m_w, .ref m_l, .ref m_v, .int ms, .int mu, .long ml, .ref m_r, .int v114_7, .ref m_q])), (mo, .inl (y 4, 2, .inr (.inr (.inr (.inr (outr m1 m2)))))), (m1, .inl (y 0, nb, .inl v114_8)), (m2, .inl (y 0, nb, .inl v114_9)), (m_p, .inl (y 1, 121, .inl mpa)), (m_w, .inl (y 1, 121, .inl mwe)), (m_l, .inl (y 3, 121, .inl mli)), (m_v, .inl (y 2, 121, .inr (.inl mvo))), (m_r, .inl (y 0, 32, .inl v114_10)), (m_q, .inl (y 1, 260, .inl mpl))] → va_S A s.heap H locs → lv_has ls 4 [(0, .ref am), (1, .int v114_0), (2, .int v114_1), (3, .int v114_2)] → W p l e (headSpec wsX9_compact ({ frames := 4, cells := 0, slots := 0, locals := 85 } : Room)).room s m ([.ref am] : List Value).toArray below meth c H locs 0 0 (MQ below (Po D (fun _ : Unit => some (.int res.1)) (fun _ => [(am, .inr (8, [.int th, .int mb, .ref mo, .int res.2.1, .int res.2.2.1, .int res.2.2.2.1, .int (zb res.2.2.2.2.1), .int res.2.2.2.2.2.1, .int res.2.2.2.2.2.2.1, .int res.2.2.2.2.2.2.2.1, .ref m_p, .ref m_w, .ref m_l, .ref m_v, .int res.2.2.2.2.2.2.2.2.1, .int res.2.2.2.2.2.2.2.2.2.1, .long res.2.2.2.2.2.2.2.2.2.2.1, .ref m_r, .int res.2.2.2.2.2.2.2.2.2.2.2.1, .ref m_q])), (mo, .inl (y 4, 2, .inr (.inr (.inr (.inr (outr m1 m2)))))), (m1, .inl (y 0, nb, .inl res.2.2.2.2.2.2.2.2.2.2.2.2.1)), (m2, .inl (y 0, nb, .inl res.2.2.2.2.2.2.2.2.2.2.2.2.2.1)), (m_p, .inl (y 1, 121, .inl res.2.2.2.2.2.2.2.2.2.2.2.2.2.2.1)), (m_w, .inl (y 1, 121, .inl res.2.2.2.2.2.2.2.2.2.2.2.2.2.2.2.1)), (m_l, .inl (y 3, 121, .inl res.2.2.2.2.2.2.2.2.2.2.2.2.2.2.2.2.1)), (m_v, .inl (y 2, 121, .inr (.inl res.2.2.2.2.2.2.2.2.2.2.2.2.2.2.2.2.2.1))), (m_r, .inl (y 0, 32, .inl res.2.2.2.2.2.2.2.2.2.2.2.2.2.2.2.2.2.2.1)), (m_q, .inl (y 1, 260, .inl res.2.2.2.2.2.2.2.2.2.2.2.2.2.2.2.2.2.2.2))]) A) ([.ref am] : List Value).toArray s 0 0 A) (F0 m 114 ls []) := by
    intro n114
    induction n114 with
    | zero =>
      intro v114_0 v114_1 v114_2 v114_3 v114_4 v114_5 v114_6 v114_7 v114_8 v114_9 v114_10 H locs ls hf
      exact absurd (show (none : Option (Int32 × Int32 × Int32 × Int32 × Bool × Int32 × Int32 × Int32 × Int32 × Int32 × Int64 × Int32 × (Nat → Int32) × (Nat → Int32) × (Nat → Int32) × (Nat → Int32) × (Nat → Int32) × (Nat → Int64) × (Nat → Int32) × (Nat → Int32))) = some res from hf) (fun q => by cases q)
    | succ n114 ih114 =>
      intro v114_0 v114_1 v114_2 v114_3 v114_4 v114_5 v114_6 v114_7 v114_8 v114_9 v114_10 H locs ls hf hP hD hS hl
      unfold fX9_compact_114 at hf
      refine lv_iload_n hx hb dX9_compact_114 rfl (lv_at hl 3 rfl) ?_
      refine lv_aload_n hx hb dX9_compact_115 rfl (lv_at hl 0 rfl) ?_
      refine va_get (D := D) (ci := 8) (v := .int ms) (C := RX9) (T := TX9) (N := 20) hx hb hts iX9 hown hK hP 0 rfl rfl 14 (by decide) (hts (.fieldLink RX9 115 "SampleTrackerModel" "samples" "I") (by decide +kernel)) (fun _ h9 => h9) rfl dX9_compact_116 ?_
      refine lv_icmp_gt (tgt := 201) hx hb dX9_compact_119 (by decide) (fun c_1 => ?_) (fun c_1 => ?_)
      · have hf := ifp hf c_1
        refine lv_aload_n hx hb dX9_compact_201 rfl (lv_at hl 0 rfl) ?_
        refine lv_iconst (v := (0 : Int32)) hx hb dX9_compact_202 (by decide) ?_
        refine va_put (D := D) (ci := 8) (v := .int (0 : Int32)) (ty := .int) (C := RX9) (T := TX9) (N := 20) hx hb hts iX9 tyX9 tyX9_ok nmX9 hown hK hP hD hS 0 rfl rfl 18 (by decide) (hts (.fieldLink RX9 43 "SampleTrackerModel" "size" "I") (by decide +kernel)) (fun _ h9 => h9) rfl (by decide +kernel) rfl rfl (Nat.le_of_ble_eq_true rfl) dX9_compact_203 (fun H locs hP hD hS => ?_)
        have hP : va_P D vwCl [(am, .inr (8, [.int th, .int mb, .ref mo, .int us, .int me, .int rc, .int (zb v114_3), .int v114_4, .int v114_5, .int v114_6, .ref m_p, .ref m_w, .ref m_l, .ref m_v, .int ms, .int mu, .long ml, .ref m_r, .int (0 : Int32), .ref m_q])), (mo, .inl (y 4, 2, .inr (.inr (.inr (.inr (outr m1 m2)))))), (m1, .inl (y 0, nb, .inl v114_8)), (m2, .inl (y 0, nb, .inl v114_9)), (m_p, .inl (y 1, 121, .inl mpa)), (m_w, .inl (y 1, 121, .inl mwe)), (m_l, .inl (y 3, 121, .inl mli)), (m_v, .inl (y 2, 121, .inr (.inl mvo))), (m_r, .inl (y 0, 32, .inl v114_10)), (m_q, .inl (y 1, 260, .inl mpl))] H := hP
        have hD : va_D A [(am, .inr (8, [.int th, .int mb, .ref mo, .int us, .int me, .int rc, .int (zb v114_3), .int v114_4, .int v114_5, .int v114_6, .ref m_p, .ref m_w, .ref m_l, .ref m_v, .int ms, .int mu, .long ml, .ref m_r, .int (0 : Int32), .ref m_q])), (mo, .inl (y 4, 2, .inr (.inr (.inr (.inr (outr m1 m2)))))), (m1, .inl (y 0, nb, .inl v114_8)), (m2, .inl (y 0, nb, .inl v114_9)), (m_p, .inl (y 1, 121, .inl mpa)), (m_w, .inl (y 1, 121, .inl mwe)), (m_l, .inl (y 3, 121, .inl mli)), (m_v, .inl (y 2, 121, .inr (.inl mvo))), (m_r, .inl (y 0, 32, .inl v114_10)), (m_q, .inl (y 1, 260, .inl mpl))] := hD
        refine lv_aload_n hx hb dX9_compact_206 rfl (lv_at hl 0 rfl) ?_
        refine lv_aload_n hx hb dX9_compact_207 rfl (lv_at hl 0 rfl) ?_
        refine lv_aload_n hx hb dX9_compact_208 rfl (lv_at hl 0 rfl) ?_
        refine va_get (D := D) (ci := 8) (v := .int us) (C := RX9) (T := TX9) (N := 20) hx hb hts iX9 hown hK hP 0 rfl rfl 3 (by decide) (hts (.fieldLink RX9 100 "SampleTrackerModel" "use" "I") (by decide +kernel)) (fun _ h9 => h9) rfl dX9_compact_209 ?_
        obtain ⟨r_2, hc_3, hf⟩ := obd hf
        refine ct_V (As := [.int us]) (rest := [.ref am]) (wr := []) (wn := [(am, .inr (8, [.int th, .int mb, .ref mo, .int us, .int me, .int rc, .int (zb v114_3), .int v114_4, .int v114_5, .int v114_6, .ref m_p, .ref m_w, .ref m_l, .ref m_v, .int ms, .int mu, .long ml, .ref m_r, .int (0 : Int32), .ref m_q])), (mo, .inl (y 4, 2, .inr (.inr (.inr (.inr (outr m1 m2)))))), (m1, .inl (y 0, nb, .inl v114_8)), (m2, .inl (y 0, nb, .inl v114_9)), (m_p, .inl (y 1, 121, .inl mpa)), (m_w, .inl (y 1, 121, .inl mwe)), (m_l, .inl (y 3, 121, .inl mli)), (m_v, .inl (y 2, 121, .inr (.inl mvo))), (m_r, .inl (y 0, 32, .inl v114_10)), (m_q, .inl (y 1, 260, .inl mpl))]) hfix (cX9_generation_ok l D y am mo m1 m2 m_p m_w m_l m_v m_r m_q nb th mb us me rc v114_3 v114_4 v114_5 v114_6 ms mu ml (0 : Int32) v114_8 v114_9 mpa mwe mli mvo v114_10 mpl us _ hc_3) (cwV 1 hts gX9_compact_X9_generation rfl rfl rfl (by decide +kernel) ⟨Nat.le_of_ble_eq_true rfl, Nat.le_of_ble_eq_true rfl⟩) E hP hD hS [0, 1, 2, 3, 4, 5, 6, 7, 8, 9] [] [0, 1, 2, 3, 4, 5, 6, 7, 8, 9] rfl rfl rfl rfl (by decide) rfl rfl 0 8 rfl rfl rfl hl.1 rfl (Nat.le_of_ble_eq_true rfl) dX9_compact_212 ⟨Nat.zero_le _, Nat.zero_le _⟩ (fun H locs hP hD hS => ?_)
        refine W.eq (g2 := F0 m 215 ls [.long r_2, .ref am]) rfl ?_
        refine lv_l2i (v := (r_2.toInt32)) hx hb dX9_compact_215 rfl ?_
        refine lv_iconst (v := (1 : Int32)) hx hb dX9_compact_216 (by decide) ?_
        refine lv_iadd hx hb dX9_compact_217 ?_
        obtain ⟨⟨o_mz_4, o_mro_5⟩, hc_6, hf⟩ := obd hf
        refine ct_V (As := [.int ((r_2.toInt32) + (1 : Int32))]) (rest := []) (wr := []) (wn := [(am, .inr (8, [.int th, .int mb, .ref mo, .int us, .int me, .int rc, .int (zb v114_3), .int v114_4, .int v114_5, .int v114_6, .ref m_p, .ref m_w, .ref m_l, .ref m_v, .int ms, .int mu, .long ml, .ref m_r, .int o_mz_4, .ref m_q])), (mo, .inl (y 4, 2, .inr (.inr (.inr (.inr (outr m1 m2)))))), (m1, .inl (y 0, nb, .inl v114_8)), (m2, .inl (y 0, nb, .inl v114_9)), (m_p, .inl (y 1, 121, .inl mpa)), (m_w, .inl (y 1, 121, .inl mwe)), (m_l, .inl (y 3, 121, .inl mli)), (m_v, .inl (y 2, 121, .inr (.inl mvo))), (m_r, .inl (y 0, 32, .inl o_mro_5)), (m_q, .inl (y 1, 260, .inl mpl))]) hfix (cX9_u4_ok l D y am mo m1 m2 m_p m_w m_l m_v m_r m_q nb th mb us me rc v114_3 v114_4 v114_5 v114_6 ms mu ml (0 : Int32) v114_8 v114_9 mpa mwe mli mvo v114_10 mpl ((r_2.toInt32) + (1 : Int32)) _ hc_6) (cwV 1 hts gX9_compact_X9_u4 rfl rfl rfl (by decide +kernel) ⟨Nat.le_of_ble_eq_true rfl, Nat.le_of_ble_eq_true rfl⟩) E hP hD hS [0, 1, 2, 3, 4, 5, 6, 7, 8, 9] [] [0, 1, 2, 3, 4, 5, 6, 7, 8, 9] rfl rfl rfl rfl (by decide) rfl rfl 0 8 rfl rfl rfl hl.1 rfl (Nat.le_of_ble_eq_true rfl) dX9_compact_218 ⟨Nat.zero_le _, Nat.zero_le _⟩ (fun H locs hP hD hS => ?_)
        refine W.eq (g2 := F0 m 221 ls []) rfl ?_
        refine lv_aload_n hx hb dX9_compact_221 rfl (lv_at hl 0 rfl) ?_
        refine lv_aload_n hx hb dX9_compact_222 rfl (lv_at hl 0 rfl) ?_
        refine va_get (D := D) (ci := 8) (v := .ref m_r) (C := RX9) (T := TX9) (N := 20) hx hb hts iX9 hown hK hP 0 rfl rfl 17 (by decide) (hts (.fieldLink RX9 28 "SampleTrackerModel" "row" "[B") (by decide +kernel)) (fun _ h9 => h9) rfl dX9_compact_223 ?_
        refine lv_iconst (v := (0 : Int32)) hx hb dX9_compact_226 (by decide) ?_
        refine lv_iconst (v := (4 : Int32)) hx hb dX9_compact_227 (by decide) ?_
        obtain ⟨r_7, hc_8, hf⟩ := obd hf
        refine ct_S (As := [.ref m_r, .int (0 : Int32), .int (4 : Int32)]) (rest := [.ref am]) (wr := [(am, .inr (8, [.int th, .int mb, .ref mo, .int us, .int me, .int rc, .int (zb v114_3), .int v114_4, .int v114_5, .int v114_6, .ref m_p, .ref m_w, .ref m_l, .ref m_v, .int ms, .int mu, .long ml, .ref m_r, .int o_mz_4, .ref m_q])), (mo, .inl (y 4, 2, .inr (.inr (.inr (.inr (outr m1 m2)))))), (m1, .inl (y 0, nb, .inl v114_8)), (m2, .inl (y 0, nb, .inl v114_9)), (m_p, .inl (y 1, 121, .inl mpa)), (m_w, .inl (y 1, 121, .inl mwe)), (m_l, .inl (y 3, 121, .inl mli)), (m_v, .inl (y 2, 121, .inr (.inl mvo))), (m_q, .inl (y 1, 260, .inl mpl))]) (wn := [(am, .inr (8, [.int th, .int mb, .ref mo, .int us, .int me, .int rc, .int (zb v114_3), .int v114_4, .int v114_5, .int v114_6, .ref m_p, .ref m_w, .ref m_l, .ref m_v, .int ms, .int mu, .long ml, .ref m_r, .int o_mz_4, .ref m_q])), (mo, .inl (y 4, 2, .inr (.inr (.inr (.inr (outr m1 m2)))))), (m1, .inl (y 0, nb, .inl v114_8)), (m2, .inl (y 0, nb, .inl v114_9)), (m_p, .inl (y 1, 121, .inl mpa)), (m_w, .inl (y 1, 121, .inl mwe)), (m_l, .inl (y 3, 121, .inl mli)), (m_v, .inl (y 2, 121, .inr (.inl mvo))), (m_r, .inl (y 0, 32, .inl o_mro_5)), (m_q, .inl (y 1, 260, .inl mpl))]) hfix (cX9_crc_ok l D y m_r 32 o_mro_5 (0 : Int32) (4 : Int32) _ hc_8) (va_cwS 3 hts gX9_compact_X9_crc rfl rfl rfl (by decide +kernel) ⟨Nat.le_of_ble_eq_true rfl, Nat.le_of_ble_eq_true rfl⟩) E hP hD hS [8] [0, 1, 2, 3, 4, 5, 6, 7, 9] [0, 1, 2, 3, 4, 5, 6, 7, 9, 8] rfl rfl rfl rfl (by decide) rfl rfl rfl hl.1 rfl (Nat.le_of_ble_eq_true rfl) dX9_compact_228 ⟨Nat.zero_le _, Nat.zero_le _⟩ (fun H locs hP hD hS => ?_)
        refine W.eq (g2 := F0 m 231 ls [.int r_7, .ref am]) rfl ?_
        obtain ⟨⟨o_mz_9, o_mro_10⟩, hc_11, hf⟩ := obd hf
        refine ct_V (As := [.int r_7]) (rest := []) (wr := []) (wn := [(am, .inr (8, [.int th, .int mb, .ref mo, .int us, .int me, .int rc, .int (zb v114_3), .int v114_4, .int v114_5, .int v114_6, .ref m_p, .ref m_w, .ref m_l, .ref m_v, .int ms, .int mu, .long ml, .ref m_r, .int o_mz_9, .ref m_q])), (mo, .inl (y 4, 2, .inr (.inr (.inr (.inr (outr m1 m2)))))), (m1, .inl (y 0, nb, .inl v114_8)), (m2, .inl (y 0, nb, .inl v114_9)), (m_p, .inl (y 1, 121, .inl mpa)), (m_w, .inl (y 1, 121, .inl mwe)), (m_l, .inl (y 3, 121, .inl mli)), (m_v, .inl (y 2, 121, .inr (.inl mvo))), (m_r, .inl (y 0, 32, .inl o_mro_10)), (m_q, .inl (y 1, 260, .inl mpl))]) hfix (cX9_u4_ok l D y am mo m1 m2 m_p m_w m_l m_v m_r m_q nb th mb us me rc v114_3 v114_4 v114_5 v114_6 ms mu ml o_mz_4 v114_8 v114_9 mpa mwe mli mvo o_mro_5 mpl r_7 _ hc_11) (cwV 1 hts gX9_compact_X9_u4 rfl rfl rfl (by decide +kernel) ⟨Nat.le_of_ble_eq_true rfl, Nat.le_of_ble_eq_true rfl⟩) E hP hD hS [0, 1, 2, 3, 4, 5, 6, 7, 8, 9] [] [0, 1, 2, 3, 4, 5, 6, 7, 8, 9] rfl rfl rfl rfl (by decide) rfl rfl 0 8 rfl rfl rfl hl.1 rfl (Nat.le_of_ble_eq_true rfl) dX9_compact_231 ⟨Nat.zero_le _, Nat.zero_le _⟩ (fun H locs hP hD hS => ?_)
        refine W.eq (g2 := F0 m 234 ls []) rfl ?_
        refine lv_aload_n hx hb dX9_compact_234 rfl (lv_at hl 0 rfl) ?_
        refine lv_sipush (v := (165 : Int32)) hx hb dX9_compact_235 (by decide) ?_
        obtain ⟨⟨o_mz_12, o_mro_13⟩, hc_14, hf⟩ := obd hf
        refine ct_V (As := [.int (165 : Int32)]) (rest := []) (wr := []) (wn := [(am, .inr (8, [.int th, .int mb, .ref mo, .int us, .int me, .int rc, .int (zb v114_3), .int v114_4, .int v114_5, .int v114_6, .ref m_p, .ref m_w, .ref m_l, .ref m_v, .int ms, .int mu, .long ml, .ref m_r, .int o_mz_12, .ref m_q])), (mo, .inl (y 4, 2, .inr (.inr (.inr (.inr (outr m1 m2)))))), (m1, .inl (y 0, nb, .inl v114_8)), (m2, .inl (y 0, nb, .inl v114_9)), (m_p, .inl (y 1, 121, .inl mpa)), (m_w, .inl (y 1, 121, .inl mwe)), (m_l, .inl (y 3, 121, .inl mli)), (m_v, .inl (y 2, 121, .inr (.inl mvo))), (m_r, .inl (y 0, 32, .inl o_mro_13)), (m_q, .inl (y 1, 260, .inl mpl))]) hfix (cX9_u1_ok l D y am mo m1 m2 m_p m_w m_l m_v m_r m_q nb th mb us me rc v114_3 v114_4 v114_5 v114_6 ms mu ml o_mz_9 v114_8 v114_9 mpa mwe mli mvo o_mro_10 mpl (165 : Int32) _ hc_14) (cwV 1 hts gX9_compact_X9_u1 rfl rfl rfl (by decide +kernel) ⟨Nat.le_of_ble_eq_true rfl, Nat.le_of_ble_eq_true rfl⟩) E hP hD hS [0, 1, 2, 3, 4, 5, 6, 7, 8, 9] [] [0, 1, 2, 3, 4, 5, 6, 7, 8, 9] rfl rfl rfl rfl (by decide) rfl rfl 0 8 rfl rfl rfl hl.1 rfl (Nat.le_of_ble_eq_true rfl) dX9_compact_238 ⟨Nat.zero_le _, Nat.zero_le _⟩ (fun H locs hP hD hS => ?_)
        refine W.eq (g2 := F0 m 241 ls []) rfl ?_
        refine lv_aload_n hx hb dX9_compact_241 rfl (lv_at hl 0 rfl) ?_
        refine lv_iload_n hx hb dX9_compact_242 rfl (lv_at hl 1 rfl) ?_
        refine lv_iconst (v := (0 : Int32)) hx hb dX9_compact_243 (by decide) ?_
        obtain ⟨⟨r_15, o_dn_16, o_lf_17, o_mw_18, o_mf_19, o_c1_20, o_c2_21⟩, hc_22, hf⟩ := obd hf
        refine ct_V (As := [.int v114_0, .int (0 : Int32)]) (rest := []) (wr := []) (wn := [(am, .inr (8, [.int th, .int mb, .ref mo, .int us, .int me, .int rc, .int (zb o_dn_16), .int o_lf_17, .int o_mw_18, .int o_mf_19, .ref m_p, .ref m_w, .ref m_l, .ref m_v, .int ms, .int mu, .long ml, .ref m_r, .int o_mz_12, .ref m_q])), (mo, .inl (y 4, 2, .inr (.inr (.inr (.inr (outr m1 m2)))))), (m1, .inl (y 0, nb, .inl o_c1_20)), (m2, .inl (y 0, nb, .inl o_c2_21)), (m_p, .inl (y 1, 121, .inl mpa)), (m_w, .inl (y 1, 121, .inl mwe)), (m_l, .inl (y 3, 121, .inl mli)), (m_v, .inl (y 2, 121, .inr (.inl mvo))), (m_r, .inl (y 0, 32, .inl o_mro_13)), (m_q, .inl (y 1, 260, .inl mpl))]) hfix (cX9_writeRow_ok l D y am mo m1 m2 m_p m_w m_l m_v m_r m_q nb th mb us me rc v114_3 v114_4 v114_5 v114_6 ms mu ml o_mz_12 v114_8 v114_9 mpa mwe mli mvo o_mro_13 mpl v114_0 (0 : Int32) _ hc_22) (cwV 2 hts gX9_compact_X9_writeRow rfl rfl rfl (by decide +kernel) ⟨Nat.le_of_ble_eq_true rfl, Nat.le_of_ble_eq_true rfl⟩) E hP hD hS [0, 1, 2, 3, 4, 5, 6, 7, 8, 9] [] [0, 1, 2, 3, 4, 5, 6, 7, 8, 9] rfl rfl rfl rfl (by decide) rfl rfl 0 8 rfl rfl rfl hl.1 rfl (Nat.le_of_ble_eq_true rfl) dX9_compact_244 ⟨Nat.zero_le _, Nat.zero_le _⟩ (fun H locs hP hD hS => ?_)
        refine W.eq (g2 := F0 m 247 ls [.int (zb r_15)]) rfl ?_
        refine lv_if_ne (tgt := 252) hx hb dX9_compact_247 (by decide) (fun c_23 => ?_) (fun c_23 => ?_)
        · have hf := ifn hf c_23
          refine lv_aload_n hx hb dX9_compact_252 rfl (lv_at hl 0 rfl) ?_
          refine lv_iload_n hx hb dX9_compact_253 rfl (lv_at hl 1 rfl) ?_
          refine va_put (D := D) (ci := 8) (v := .int v114_0) (ty := .int) (C := RX9) (T := TX9) (N := 20) hx hb hts iX9 tyX9 tyX9_ok nmX9 hown hK hP hD hS 0 rfl rfl 3 (by decide) (hts (.fieldLink RX9 100 "SampleTrackerModel" "use" "I") (by decide +kernel)) (fun _ h9 => h9) rfl (by decide +kernel) rfl rfl (Nat.le_of_ble_eq_true rfl) dX9_compact_254 (fun H locs hP hD hS => ?_)
          have hP : va_P D vwCl [(am, .inr (8, [.int th, .int mb, .ref mo, .int v114_0, .int me, .int rc, .int (zb o_dn_16), .int o_lf_17, .int o_mw_18, .int o_mf_19, .ref m_p, .ref m_w, .ref m_l, .ref m_v, .int ms, .int mu, .long ml, .ref m_r, .int o_mz_12, .ref m_q])), (mo, .inl (y 4, 2, .inr (.inr (.inr (.inr (outr m1 m2)))))), (m1, .inl (y 0, nb, .inl o_c1_20)), (m2, .inl (y 0, nb, .inl o_c2_21)), (m_p, .inl (y 1, 121, .inl mpa)), (m_w, .inl (y 1, 121, .inl mwe)), (m_l, .inl (y 3, 121, .inl mli)), (m_v, .inl (y 2, 121, .inr (.inl mvo))), (m_r, .inl (y 0, 32, .inl o_mro_13)), (m_q, .inl (y 1, 260, .inl mpl))] H := hP
          have hD : va_D A [(am, .inr (8, [.int th, .int mb, .ref mo, .int v114_0, .int me, .int rc, .int (zb o_dn_16), .int o_lf_17, .int o_mw_18, .int o_mf_19, .ref m_p, .ref m_w, .ref m_l, .ref m_v, .int ms, .int mu, .long ml, .ref m_r, .int o_mz_12, .ref m_q])), (mo, .inl (y 4, 2, .inr (.inr (.inr (.inr (outr m1 m2)))))), (m1, .inl (y 0, nb, .inl o_c1_20)), (m2, .inl (y 0, nb, .inl o_c2_21)), (m_p, .inl (y 1, 121, .inl mpa)), (m_w, .inl (y 1, 121, .inl mwe)), (m_l, .inl (y 3, 121, .inl mli)), (m_v, .inl (y 2, 121, .inr (.inl mvo))), (m_r, .inl (y 0, 32, .inl o_mro_13)), (m_q, .inl (y 1, 260, .inl mpl))] := hD
          refine lv_aload_n hx hb dX9_compact_257 rfl (lv_at hl 0 rfl) ?_
          by_cases c_24 : v114_0 = 0
          · have hf := ifp hf c_24
            obtain ⟨⟨o_me_26, o_rc_27, o_ms_28, o_mu_29, o_ml_30, o_mpa_31, o_mwe_32, o_mli_33, o_mvo_34, o_mpl_35⟩, hc_36, hf⟩ := obd hf
            refine ct_V (As := []) (rest := []) (wr := []) (wn := [(am, .inr (8, [.int th, .int mb, .ref mo, .int v114_0, .int o_me_26, .int o_rc_27, .int (zb o_dn_16), .int o_lf_17, .int o_mw_18, .int o_mf_19, .ref m_p, .ref m_w, .ref m_l, .ref m_v, .int o_ms_28, .int o_mu_29, .long o_ml_30, .ref m_r, .int o_mz_12, .ref m_q])), (mo, .inl (y 4, 2, .inr (.inr (.inr (.inr (outr m1 m2)))))), (m1, .inl (y 0, nb, .inl o_c1_20)), (m2, .inl (y 0, nb, .inl o_c2_21)), (m_p, .inl (y 1, 121, .inl o_mpa_31)), (m_w, .inl (y 1, 121, .inl o_mwe_32)), (m_l, .inl (y 3, 121, .inl o_mli_33)), (m_v, .inl (y 2, 121, .inr (.inl o_mvo_34))), (m_r, .inl (y 0, 32, .inl o_mro_13)), (m_q, .inl (y 1, 260, .inl o_mpl_35))]) hfix (cX9_reads_1_ok l D y am mo m1 m2 m_p m_w m_l m_v m_r m_q nb th mb v114_0 me rc o_dn_16 o_lf_17 o_mw_18 o_mf_19 ms mu ml o_mz_12 o_c1_20 o_c2_21 mpa mwe mli mvo o_mro_13 mpl c_24 _ hc_36) (cwV 0 hts gX9_compact_X9_reads rfl rfl rfl (by decide +kernel) ⟨Nat.le_of_ble_eq_true rfl, Nat.le_of_ble_eq_true rfl⟩) E hP hD hS [0, 1, 2, 3, 4, 5, 6, 7, 8, 9] [] [0, 1, 2, 3, 4, 5, 6, 7, 8, 9] rfl rfl rfl rfl (by decide) rfl rfl 0 8 rfl rfl rfl hl.1 rfl (Nat.le_of_ble_eq_true rfl) dX9_compact_258 ⟨Nat.zero_le _, Nat.zero_le _⟩ (fun H locs hP hD hS => ?_)
            refine W.eq (g2 := F0 m 261 ls []) rfl ?_
            refine lv_iconst (v := (0 : Int32)) hx hb dX9_compact_261 (by decide) ?_
            obtain rfl := Option.some.inj hf
            exact W.iret hx hb hr (fun t ht hW => ⟨⟨(), rfl, by rw [ht]; exact hP, hD⟩, hS.F ht⟩) hS.2.2 dX9_compact_262
          · have hf := ifn hf c_24
            by_cases c_25 : v114_0 = 1
            · have hf := ifp hf c_25
              obtain ⟨⟨o_me_37, o_rc_38, o_ms_39, o_mu_40, o_ml_41, o_mpa_42, o_mwe_43, o_mli_44, o_mvo_45, o_mpl_46⟩, hc_47, hf⟩ := obd hf
              refine ct_V (As := []) (rest := []) (wr := []) (wn := [(am, .inr (8, [.int th, .int mb, .ref mo, .int v114_0, .int o_me_37, .int o_rc_38, .int (zb o_dn_16), .int o_lf_17, .int o_mw_18, .int o_mf_19, .ref m_p, .ref m_w, .ref m_l, .ref m_v, .int o_ms_39, .int o_mu_40, .long o_ml_41, .ref m_r, .int o_mz_12, .ref m_q])), (mo, .inl (y 4, 2, .inr (.inr (.inr (.inr (outr m1 m2)))))), (m1, .inl (y 0, nb, .inl o_c1_20)), (m2, .inl (y 0, nb, .inl o_c2_21)), (m_p, .inl (y 1, 121, .inl o_mpa_42)), (m_w, .inl (y 1, 121, .inl o_mwe_43)), (m_l, .inl (y 3, 121, .inl o_mli_44)), (m_v, .inl (y 2, 121, .inr (.inl o_mvo_45))), (m_r, .inl (y 0, 32, .inl o_mro_13)), (m_q, .inl (y 1, 260, .inl o_mpl_46))]) hfix (cX9_reads_2_ok l D y am mo m1 m2 m_p m_w m_l m_v m_r m_q nb th mb v114_0 me rc o_dn_16 o_lf_17 o_mw_18 o_mf_19 ms mu ml o_mz_12 o_c1_20 o_c2_21 mpa mwe mli mvo o_mro_13 mpl c_24 c_25 _ hc_47) (cwV 0 hts gX9_compact_X9_reads rfl rfl rfl (by decide +kernel) ⟨Nat.le_of_ble_eq_true rfl, Nat.le_of_ble_eq_true rfl⟩) E hP hD hS [0, 1, 2, 3, 4, 5, 6, 7, 8, 9] [] [0, 1, 2, 3, 4, 5, 6, 7, 8, 9] rfl rfl rfl rfl (by decide) rfl rfl 0 8 rfl rfl rfl hl.1 rfl (Nat.le_of_ble_eq_true rfl) dX9_compact_258 ⟨Nat.zero_le _, Nat.zero_le _⟩ (fun H locs hP hD hS => ?_)
              refine W.eq (g2 := F0 m 261 ls []) rfl ?_
              refine lv_iconst (v := (0 : Int32)) hx hb dX9_compact_261 (by decide) ?_
              obtain rfl := Option.some.inj hf
              exact W.iret hx hb hr (fun t ht hW => ⟨⟨(), rfl, by rw [ht]; exact hP, hD⟩, hS.F ht⟩) hS.2.2 dX9_compact_262
            · have hf := ifn hf c_25
              exact absurd hf (fun q => by cases q)
        · have hf := ifp hf c_23
          refine lv_iconst (v := (-1 : Int32)) hx hb dX9_compact_250 (by decide) ?_
          obtain rfl := Option.some.inj hf
          exact W.iret hx hb hr (fun t ht hW => ⟨⟨(), rfl, by rw [ht]; exact hP, hD⟩, hS.F ht⟩) hS.2.2 dX9_compact_251
      · have hf := ifn hf c_1
        refine lv_aload_n hx hb dX9_compact_122 rfl (lv_at hl 0 rfl) ?_
        refine lv_bipush (v := (6 : Int32)) hx hb dX9_compact_123 (by decide) ?_
        obtain ⟨⟨o_mz_48, o_mro_49⟩, hc_50, hf⟩ := obd hf
        refine ct_V (As := [.int (6 : Int32)]) (rest := []) (wr := []) (wn := [(am, .inr (8, [.int th, .int mb, .ref mo, .int us, .int me, .int rc, .int (zb v114_3), .int v114_4, .int v114_5, .int v114_6, .ref m_p, .ref m_w, .ref m_l, .ref m_v, .int ms, .int mu, .long ml, .ref m_r, .int o_mz_48, .ref m_q])), (mo, .inl (y 4, 2, .inr (.inr (.inr (.inr (outr m1 m2)))))), (m1, .inl (y 0, nb, .inl v114_8)), (m2, .inl (y 0, nb, .inl v114_9)), (m_p, .inl (y 1, 121, .inl mpa)), (m_w, .inl (y 1, 121, .inl mwe)), (m_l, .inl (y 3, 121, .inl mli)), (m_v, .inl (y 2, 121, .inr (.inl mvo))), (m_r, .inl (y 0, 32, .inl o_mro_49)), (m_q, .inl (y 1, 260, .inl mpl))]) hfix (cX9_begin_ok l D y am mo m1 m2 m_p m_w m_l m_v m_r m_q nb th mb us me rc v114_3 v114_4 v114_5 v114_6 ms mu ml v114_7 v114_8 v114_9 mpa mwe mli mvo v114_10 mpl (6 : Int32) _ hc_50) (cwV 1 hts gX9_compact_X9_begin rfl rfl rfl (by decide +kernel) ⟨Nat.le_of_ble_eq_true rfl, Nat.le_of_ble_eq_true rfl⟩) E hP hD hS [0, 1, 2, 3, 4, 5, 6, 7, 8, 9] [] [0, 1, 2, 3, 4, 5, 6, 7, 8, 9] rfl rfl rfl rfl (by decide) rfl rfl 0 8 rfl rfl rfl hl.1 rfl (Nat.le_of_ble_eq_true rfl) dX9_compact_125 ⟨Nat.zero_le _, Nat.zero_le _⟩ (fun H locs hP hD hS => ?_)
        refine W.eq (g2 := F0 m 128 ls []) rfl ?_
        refine lv_aload_n hx hb dX9_compact_128 rfl (lv_at hl 0 rfl) ?_
        refine lv_aload_n hx hb dX9_compact_129 rfl (lv_at hl 0 rfl) ?_
        refine va_get (D := D) (ci := 8) (v := .ref m_p) (C := RX9) (T := TX9) (N := 20) hx hb hts iX9 hown hK hP 0 rfl rfl 10 (by decide) (hts (.fieldLink RX9 13 "SampleTrackerModel" "parent" "[I") (by decide +kernel)) (fun _ h9 => h9) rfl dX9_compact_130 ?_
        refine lv_iload_n hx hb dX9_compact_133 rfl (lv_at hl 3 rfl) ?_
        obtain ⟨h_51, hf⟩ := ibk hf
        refine va_iald hx hb hK hP 4 1 rfl rfl (ib_in h_51) dX9_compact_134 ?_
        obtain ⟨⟨o_mz_52, o_mro_53⟩, hc_54, hf⟩ := obd hf
        refine ct_V (As := [.int (mpa v114_2.toNatClampNeg)]) (rest := []) (wr := []) (wn := [(am, .inr (8, [.int th, .int mb, .ref mo, .int us, .int me, .int rc, .int (zb v114_3), .int v114_4, .int v114_5, .int v114_6, .ref m_p, .ref m_w, .ref m_l, .ref m_v, .int ms, .int mu, .long ml, .ref m_r, .int o_mz_52, .ref m_q])), (mo, .inl (y 4, 2, .inr (.inr (.inr (.inr (outr m1 m2)))))), (m1, .inl (y 0, nb, .inl v114_8)), (m2, .inl (y 0, nb, .inl v114_9)), (m_p, .inl (y 1, 121, .inl mpa)), (m_w, .inl (y 1, 121, .inl mwe)), (m_l, .inl (y 3, 121, .inl mli)), (m_v, .inl (y 2, 121, .inr (.inl mvo))), (m_r, .inl (y 0, 32, .inl o_mro_53)), (m_q, .inl (y 1, 260, .inl mpl))]) hfix (cX9_u2_ok l D y am mo m1 m2 m_p m_w m_l m_v m_r m_q nb th mb us me rc v114_3 v114_4 v114_5 v114_6 ms mu ml o_mz_48 v114_8 v114_9 mpa mwe mli mvo o_mro_49 mpl (mpa v114_2.toNatClampNeg) _ hc_54) (cwV 1 hts gX9_compact_X9_u2 rfl rfl rfl (by decide +kernel) ⟨Nat.le_of_ble_eq_true rfl, Nat.le_of_ble_eq_true rfl⟩) E hP hD hS [0, 1, 2, 3, 4, 5, 6, 7, 8, 9] [] [0, 1, 2, 3, 4, 5, 6, 7, 8, 9] rfl rfl rfl rfl (by decide) rfl rfl 0 8 rfl rfl rfl hl.1 rfl (Nat.le_of_ble_eq_true rfl) dX9_compact_135 ⟨Nat.zero_le _, Nat.zero_le _⟩ (fun H locs hP hD hS => ?_)
        refine W.eq (g2 := F0 m 138 ls []) rfl ?_
        refine lv_aload_n hx hb dX9_compact_138 rfl (lv_at hl 0 rfl) ?_
        refine lv_aload_n hx hb dX9_compact_139 rfl (lv_at hl 0 rfl) ?_
        refine va_get (D := D) (ci := 8) (v := .ref m_l) (C := RX9) (T := TX9) (N := 20) hx hb hts iX9 hown hK hP 0 rfl rfl 12 (by decide) (hts (.fieldLink RX9 20 "SampleTrackerModel" "live" "[Z") (by decide +kernel)) (fun _ h9 => h9) rfl dX9_compact_140 ?_
        refine lv_iload_n hx hb dX9_compact_143 rfl (lv_at hl 3 rfl) ?_
        refine va_zald hx hb hK hP 6 3 rfl rfl (ib_in h_51) dX9_compact_144 ?_
        refine lv_if_eq (tgt := 157) hx hb dX9_compact_145 (by decide) (fun c_56 => ?_) (fun c_56 => ?_)
        · have hf := ifp hf c_56
          refine lv_sipush (v := (255 : Int32)) hx hb dX9_compact_157 (by decide) ?_
          obtain ⟨⟨o_mz_57, o_mro_58⟩, hc_59, hf⟩ := obd hf
          refine ct_V (As := [.int (255 : Int32)]) (rest := []) (wr := []) (wn := [(am, .inr (8, [.int th, .int mb, .ref mo, .int us, .int me, .int rc, .int (zb v114_3), .int v114_4, .int v114_5, .int v114_6, .ref m_p, .ref m_w, .ref m_l, .ref m_v, .int ms, .int mu, .long ml, .ref m_r, .int o_mz_57, .ref m_q])), (mo, .inl (y 4, 2, .inr (.inr (.inr (.inr (outr m1 m2)))))), (m1, .inl (y 0, nb, .inl v114_8)), (m2, .inl (y 0, nb, .inl v114_9)), (m_p, .inl (y 1, 121, .inl mpa)), (m_w, .inl (y 1, 121, .inl mwe)), (m_l, .inl (y 3, 121, .inl mli)), (m_v, .inl (y 2, 121, .inr (.inl mvo))), (m_r, .inl (y 0, 32, .inl o_mro_58)), (m_q, .inl (y 1, 260, .inl mpl))]) hfix (cX9_u1_ok l D y am mo m1 m2 m_p m_w m_l m_v m_r m_q nb th mb us me rc v114_3 v114_4 v114_5 v114_6 ms mu ml o_mz_52 v114_8 v114_9 mpa mwe mli mvo o_mro_53 mpl (255 : Int32) _ hc_59) (cwV 1 hts gX9_compact_X9_u1 rfl rfl rfl (by decide +kernel) ⟨Nat.le_of_ble_eq_true rfl, Nat.le_of_ble_eq_true rfl⟩) E hP hD hS [0, 1, 2, 3, 4, 5, 6, 7, 8, 9] [] [0, 1, 2, 3, 4, 5, 6, 7, 8, 9] rfl rfl rfl rfl (by decide) rfl rfl 0 8 rfl rfl rfl hl.1 rfl (Nat.le_of_ble_eq_true rfl) dX9_compact_160 ⟨Nat.zero_le _, Nat.zero_le _⟩ (fun H locs hP hD hS => ?_)
          refine W.eq (g2 := F0 m 163 ls []) rfl ?_
          refine lv_aload_n hx hb dX9_compact_163 rfl (lv_at hl 0 rfl) ?_
          refine lv_aload_n hx hb dX9_compact_164 rfl (lv_at hl 0 rfl) ?_
          refine va_get (D := D) (ci := 8) (v := .ref m_v) (C := RX9) (T := TX9) (N := 20) hx hb hts iX9 hown hK hP 0 rfl rfl 13 (by decide) (hts (.fieldLink RX9 24 "SampleTrackerModel" "volume" "[J") (by decide +kernel)) (fun _ h9 => h9) rfl dX9_compact_165 ?_
          refine lv_iload_n hx hb dX9_compact_168 rfl (lv_at hl 3 rfl) ?_
          refine va_lald hx hb hK hP 7 2 rfl rfl (ib_in h_51) dX9_compact_169 ?_
          obtain ⟨⟨o_mz_61, o_mro_62⟩, hc_63, hf⟩ := obd hf
          refine ct_V (As := [.long (mvo v114_2.toNatClampNeg)]) (rest := []) (wr := []) (wn := [(am, .inr (8, [.int th, .int mb, .ref mo, .int us, .int me, .int rc, .int (zb v114_3), .int v114_4, .int v114_5, .int v114_6, .ref m_p, .ref m_w, .ref m_l, .ref m_v, .int ms, .int mu, .long ml, .ref m_r, .int o_mz_61, .ref m_q])), (mo, .inl (y 4, 2, .inr (.inr (.inr (.inr (outr m1 m2)))))), (m1, .inl (y 0, nb, .inl v114_8)), (m2, .inl (y 0, nb, .inl v114_9)), (m_p, .inl (y 1, 121, .inl mpa)), (m_w, .inl (y 1, 121, .inl mwe)), (m_l, .inl (y 3, 121, .inl mli)), (m_v, .inl (y 2, 121, .inr (.inl mvo))), (m_r, .inl (y 0, 32, .inl o_mro_62)), (m_q, .inl (y 1, 260, .inl mpl))]) hfix (cX9_u8_ok l D y am mo m1 m2 m_p m_w m_l m_v m_r m_q nb th mb us me rc v114_3 v114_4 v114_5 v114_6 ms mu ml o_mz_57 v114_8 v114_9 mpa mwe mli mvo o_mro_58 mpl (mvo v114_2.toNatClampNeg) _ hc_63) (cwV 1 hts gX9_compact_X9_u8 rfl rfl rfl (by decide +kernel) ⟨Nat.le_of_ble_eq_true rfl, Nat.le_of_ble_eq_true rfl⟩) E hP hD hS [0, 1, 2, 3, 4, 5, 6, 7, 8, 9] [] [0, 1, 2, 3, 4, 5, 6, 7, 8, 9] rfl rfl rfl rfl (by decide) rfl rfl 0 8 rfl rfl rfl hl.1 rfl (Nat.le_of_ble_eq_true rfl) dX9_compact_170 ⟨Nat.zero_le _, Nat.zero_le _⟩ (fun H locs hP hD hS => ?_)
          refine W.eq (g2 := F0 m 173 ls []) rfl ?_
          refine lv_aload_n hx hb dX9_compact_173 rfl (lv_at hl 0 rfl) ?_
          obtain ⟨⟨o_mz_64, o_mro_65⟩, hc_66, hf⟩ := obd hf
          refine ct_V (As := []) (rest := []) (wr := []) (wn := [(am, .inr (8, [.int th, .int mb, .ref mo, .int us, .int me, .int rc, .int (zb v114_3), .int v114_4, .int v114_5, .int v114_6, .ref m_p, .ref m_w, .ref m_l, .ref m_v, .int ms, .int mu, .long ml, .ref m_r, .int o_mz_64, .ref m_q])), (mo, .inl (y 4, 2, .inr (.inr (.inr (.inr (outr m1 m2)))))), (m1, .inl (y 0, nb, .inl v114_8)), (m2, .inl (y 0, nb, .inl v114_9)), (m_p, .inl (y 1, 121, .inl mpa)), (m_w, .inl (y 1, 121, .inl mwe)), (m_l, .inl (y 3, 121, .inl mli)), (m_v, .inl (y 2, 121, .inr (.inl mvo))), (m_r, .inl (y 0, 32, .inl o_mro_65)), (m_q, .inl (y 1, 260, .inl mpl))]) hfix (cX9_checked_ok l D y am mo m1 m2 m_p m_w m_l m_v m_r m_q nb th mb us me rc v114_3 v114_4 v114_5 v114_6 ms mu ml o_mz_61 v114_8 v114_9 mpa mwe mli mvo o_mro_62 mpl _ hc_66) (cwV 0 hts gX9_compact_X9_checked rfl rfl rfl (by decide +kernel) ⟨Nat.le_of_ble_eq_true rfl, Nat.le_of_ble_eq_true rfl⟩) E hP hD hS [0, 1, 2, 3, 4, 5, 6, 7, 8, 9] [] [0, 1, 2, 3, 4, 5, 6, 7, 8, 9] rfl rfl rfl rfl (by decide) rfl rfl 0 8 rfl rfl rfl hl.1 rfl (Nat.le_of_ble_eq_true rfl) dX9_compact_174 ⟨Nat.zero_le _, Nat.zero_le _⟩ (fun H locs hP hD hS => ?_)
          refine W.eq (g2 := F0 m 177 ls []) rfl ?_
          refine lv_aload_n hx hb dX9_compact_177 rfl (lv_at hl 0 rfl) ?_
          refine lv_iload_n hx hb dX9_compact_178 rfl (lv_at hl 1 rfl) ?_
          refine lv_iload_n hx hb dX9_compact_179 rfl (lv_at hl 2 rfl) ?_
          obtain ⟨⟨r_67, o_dn_68, o_lf_69, o_mw_70, o_mf_71, o_c1_72, o_c2_73⟩, hc_74, hf⟩ := obd hf
          refine ct_V (As := [.int v114_0, .int v114_1]) (rest := []) (wr := []) (wn := [(am, .inr (8, [.int th, .int mb, .ref mo, .int us, .int me, .int rc, .int (zb o_dn_68), .int o_lf_69, .int o_mw_70, .int o_mf_71, .ref m_p, .ref m_w, .ref m_l, .ref m_v, .int ms, .int mu, .long ml, .ref m_r, .int o_mz_64, .ref m_q])), (mo, .inl (y 4, 2, .inr (.inr (.inr (.inr (outr m1 m2)))))), (m1, .inl (y 0, nb, .inl o_c1_72)), (m2, .inl (y 0, nb, .inl o_c2_73)), (m_p, .inl (y 1, 121, .inl mpa)), (m_w, .inl (y 1, 121, .inl mwe)), (m_l, .inl (y 3, 121, .inl mli)), (m_v, .inl (y 2, 121, .inr (.inl mvo))), (m_r, .inl (y 0, 32, .inl o_mro_65)), (m_q, .inl (y 1, 260, .inl mpl))]) hfix (cX9_writeRow_ok l D y am mo m1 m2 m_p m_w m_l m_v m_r m_q nb th mb us me rc v114_3 v114_4 v114_5 v114_6 ms mu ml o_mz_64 v114_8 v114_9 mpa mwe mli mvo o_mro_65 mpl v114_0 v114_1 _ hc_74) (cwV 2 hts gX9_compact_X9_writeRow rfl rfl rfl (by decide +kernel) ⟨Nat.le_of_ble_eq_true rfl, Nat.le_of_ble_eq_true rfl⟩) E hP hD hS [0, 1, 2, 3, 4, 5, 6, 7, 8, 9] [] [0, 1, 2, 3, 4, 5, 6, 7, 8, 9] rfl rfl rfl rfl (by decide) rfl rfl 0 8 rfl rfl rfl hl.1 rfl (Nat.le_of_ble_eq_true rfl) dX9_compact_180 ⟨Nat.zero_le _, Nat.zero_le _⟩ (fun H locs hP hD hS => ?_)
          refine W.eq (g2 := F0 m 183 ls [.int (zb r_67)]) rfl ?_
          refine lv_if_ne (tgt := 188) hx hb dX9_compact_183 (by decide) (fun c_75 => ?_) (fun c_75 => ?_)
          · have hf := ifn hf c_75
            refine lv_iload_n hx hb dX9_compact_188 rfl (lv_at hl 2 rfl) ?_
            refine lv_aload_n hx hb dX9_compact_189 rfl (lv_at hl 0 rfl) ?_
            refine va_get (D := D) (ci := 8) (v := .int o_mz_64) (C := RX9) (T := TX9) (N := 20) hx hb hts iX9 hown hK hP 0 rfl rfl 18 (by decide) (hts (.fieldLink RX9 43 "SampleTrackerModel" "size" "I") (by decide +kernel)) (fun _ h9 => h9) rfl dX9_compact_190 ?_
            refine lv_iadd hx hb dX9_compact_193 ?_
            refine lv_istore_n (lv' := [(2, .int (v114_1 + o_mz_64)), (0, .ref am), (1, .int v114_0), (3, .int v114_2)]) hx hb dX9_compact_194 rfl hl (by decide) rfl (fun ls hl => ?_)
            refine lv_iinc (v := (v114_2 + (1 : Int32))) (lv' := [(3, .int (v114_2 + (1 : Int32))), (2, .int (v114_1 + o_mz_64)), (0, .ref am), (1, .int v114_0)]) hx hb dX9_compact_195 hl (k := 3) rfl rfl (by decide) rfl (fun ls hl => ?_)
            refine lv_goto (tgt := 114) hx hb dX9_compact_198 (by decide) ?_
            exact ih114 v114_0 (v114_1 + o_mz_64) (v114_2 + (1 : Int32)) o_dn_68 o_lf_69 o_mw_70 o_mf_71 o_mz_64 o_c1_72 o_c2_73 o_mro_65 _ _ _ hf hP hD hS (lv_sub hl [2, 3, 1, 0] rfl)
          · have hf := ifp hf c_75
            refine lv_iconst (v := (-1 : Int32)) hx hb dX9_compact_186 (by decide) ?_
            obtain rfl := Option.some.inj hf
            exact W.iret hx hb hr (fun t ht hW => ⟨⟨(), rfl, by rw [ht]; exact hP, hD⟩, hS.F ht⟩) hS.2.2 dX9_compact_187
        · have hf := ifn hf c_56
          refine lv_aload_n hx hb dX9_compact_148 rfl (lv_at hl 0 rfl) ?_
          refine va_get (D := D) (ci := 8) (v := .ref m_w) (C := RX9) (T := TX9) (N := 20) hx hb hts iX9 hown hK hP 0 rfl rfl 11 (by decide) (hts (.fieldLink RX9 17 "SampleTrackerModel" "well" "[I") (by decide +kernel)) (fun _ h9 => h9) rfl dX9_compact_149 ?_
          refine lv_iload_n hx hb dX9_compact_152 rfl (lv_at hl 3 rfl) ?_
          refine va_iald hx hb hK hP 5 1 rfl rfl (ib_in h_51) dX9_compact_153 ?_
          refine lv_goto (tgt := 160) hx hb dX9_compact_154 (by decide) ?_
          obtain ⟨⟨o_mz_77, o_mro_78⟩, hc_79, hf⟩ := obd hf
          refine ct_V (As := [.int (mwe v114_2.toNatClampNeg)]) (rest := []) (wr := []) (wn := [(am, .inr (8, [.int th, .int mb, .ref mo, .int us, .int me, .int rc, .int (zb v114_3), .int v114_4, .int v114_5, .int v114_6, .ref m_p, .ref m_w, .ref m_l, .ref m_v, .int ms, .int mu, .long ml, .ref m_r, .int o_mz_77, .ref m_q])), (mo, .inl (y 4, 2, .inr (.inr (.inr (.inr (outr m1 m2)))))), (m1, .inl (y 0, nb, .inl v114_8)), (m2, .inl (y 0, nb, .inl v114_9)), (m_p, .inl (y 1, 121, .inl mpa)), (m_w, .inl (y 1, 121, .inl mwe)), (m_l, .inl (y 3, 121, .inl mli)), (m_v, .inl (y 2, 121, .inr (.inl mvo))), (m_r, .inl (y 0, 32, .inl o_mro_78)), (m_q, .inl (y 1, 260, .inl mpl))]) hfix (cX9_u1_ok l D y am mo m1 m2 m_p m_w m_l m_v m_r m_q nb th mb us me rc v114_3 v114_4 v114_5 v114_6 ms mu ml o_mz_52 v114_8 v114_9 mpa mwe mli mvo o_mro_53 mpl (mwe v114_2.toNatClampNeg) _ hc_79) (cwV 1 hts gX9_compact_X9_u1 rfl rfl rfl (by decide +kernel) ⟨Nat.le_of_ble_eq_true rfl, Nat.le_of_ble_eq_true rfl⟩) E hP hD hS [0, 1, 2, 3, 4, 5, 6, 7, 8, 9] [] [0, 1, 2, 3, 4, 5, 6, 7, 8, 9] rfl rfl rfl rfl (by decide) rfl rfl 0 8 rfl rfl rfl hl.1 rfl (Nat.le_of_ble_eq_true rfl) dX9_compact_160 ⟨Nat.zero_le _, Nat.zero_le _⟩ (fun H locs hP hD hS => ?_)
          refine W.eq (g2 := F0 m 163 ls []) rfl ?_
          refine lv_aload_n hx hb dX9_compact_163 rfl (lv_at hl 0 rfl) ?_
          refine lv_aload_n hx hb dX9_compact_164 rfl (lv_at hl 0 rfl) ?_
          refine va_get (D := D) (ci := 8) (v := .ref m_v) (C := RX9) (T := TX9) (N := 20) hx hb hts iX9 hown hK hP 0 rfl rfl 13 (by decide) (hts (.fieldLink RX9 24 "SampleTrackerModel" "volume" "[J") (by decide +kernel)) (fun _ h9 => h9) rfl dX9_compact_165 ?_
          refine lv_iload_n hx hb dX9_compact_168 rfl (lv_at hl 3 rfl) ?_
          refine va_lald hx hb hK hP 7 2 rfl rfl (ib_in h_51) dX9_compact_169 ?_
          obtain ⟨⟨o_mz_81, o_mro_82⟩, hc_83, hf⟩ := obd hf
          refine ct_V (As := [.long (mvo v114_2.toNatClampNeg)]) (rest := []) (wr := []) (wn := [(am, .inr (8, [.int th, .int mb, .ref mo, .int us, .int me, .int rc, .int (zb v114_3), .int v114_4, .int v114_5, .int v114_6, .ref m_p, .ref m_w, .ref m_l, .ref m_v, .int ms, .int mu, .long ml, .ref m_r, .int o_mz_81, .ref m_q])), (mo, .inl (y 4, 2, .inr (.inr (.inr (.inr (outr m1 m2)))))), (m1, .inl (y 0, nb, .inl v114_8)), (m2, .inl (y 0, nb, .inl v114_9)), (m_p, .inl (y 1, 121, .inl mpa)), (m_w, .inl (y 1, 121, .inl mwe)), (m_l, .inl (y 3, 121, .inl mli)), (m_v, .inl (y 2, 121, .inr (.inl mvo))), (m_r, .inl (y 0, 32, .inl o_mro_82)), (m_q, .inl (y 1, 260, .inl mpl))]) hfix (cX9_u8_ok l D y am mo m1 m2 m_p m_w m_l m_v m_r m_q nb th mb us me rc v114_3 v114_4 v114_5 v114_6 ms mu ml o_mz_77 v114_8 v114_9 mpa mwe mli mvo o_mro_78 mpl (mvo v114_2.toNatClampNeg) _ hc_83) (cwV 1 hts gX9_compact_X9_u8 rfl rfl rfl (by decide +kernel) ⟨Nat.le_of_ble_eq_true rfl, Nat.le_of_ble_eq_true rfl⟩) E hP hD hS [0, 1, 2, 3, 4, 5, 6, 7, 8, 9] [] [0, 1, 2, 3, 4, 5, 6, 7, 8, 9] rfl rfl rfl rfl (by decide) rfl rfl 0 8 rfl rfl rfl hl.1 rfl (Nat.le_of_ble_eq_true rfl) dX9_compact_170 ⟨Nat.zero_le _, Nat.zero_le _⟩ (fun H locs hP hD hS => ?_)
          refine W.eq (g2 := F0 m 173 ls []) rfl ?_
          refine lv_aload_n hx hb dX9_compact_173 rfl (lv_at hl 0 rfl) ?_
          obtain ⟨⟨o_mz_84, o_mro_85⟩, hc_86, hf⟩ := obd hf
          refine ct_V (As := []) (rest := []) (wr := []) (wn := [(am, .inr (8, [.int th, .int mb, .ref mo, .int us, .int me, .int rc, .int (zb v114_3), .int v114_4, .int v114_5, .int v114_6, .ref m_p, .ref m_w, .ref m_l, .ref m_v, .int ms, .int mu, .long ml, .ref m_r, .int o_mz_84, .ref m_q])), (mo, .inl (y 4, 2, .inr (.inr (.inr (.inr (outr m1 m2)))))), (m1, .inl (y 0, nb, .inl v114_8)), (m2, .inl (y 0, nb, .inl v114_9)), (m_p, .inl (y 1, 121, .inl mpa)), (m_w, .inl (y 1, 121, .inl mwe)), (m_l, .inl (y 3, 121, .inl mli)), (m_v, .inl (y 2, 121, .inr (.inl mvo))), (m_r, .inl (y 0, 32, .inl o_mro_85)), (m_q, .inl (y 1, 260, .inl mpl))]) hfix (cX9_checked_ok l D y am mo m1 m2 m_p m_w m_l m_v m_r m_q nb th mb us me rc v114_3 v114_4 v114_5 v114_6 ms mu ml o_mz_81 v114_8 v114_9 mpa mwe mli mvo o_mro_82 mpl _ hc_86) (cwV 0 hts gX9_compact_X9_checked rfl rfl rfl (by decide +kernel) ⟨Nat.le_of_ble_eq_true rfl, Nat.le_of_ble_eq_true rfl⟩) E hP hD hS [0, 1, 2, 3, 4, 5, 6, 7, 8, 9] [] [0, 1, 2, 3, 4, 5, 6, 7, 8, 9] rfl rfl rfl rfl (by decide) rfl rfl 0 8 rfl rfl rfl hl.1 rfl (Nat.le_of_ble_eq_true rfl) dX9_compact_174 ⟨Nat.zero_le _, Nat.zero_le _⟩ (fun H locs hP hD hS => ?_)
          refine W.eq (g2 := F0 m 177 ls []) rfl ?_
          refine lv_aload_n hx hb dX9_compact_177 rfl (lv_at hl 0 rfl) ?_
          refine lv_iload_n hx hb dX9_compact_178 rfl (lv_at hl 1 rfl) ?_
          refine lv_iload_n hx hb dX9_compact_179 rfl (lv_at hl 2 rfl) ?_
          obtain ⟨⟨r_87, o_dn_88, o_lf_89, o_mw_90, o_mf_91, o_c1_92, o_c2_93⟩, hc_94, hf⟩ := obd hf
          refine ct_V (As := [.int v114_0, .int v114_1]) (rest := []) (wr := []) (wn := [(am, .inr (8, [.int th, .int mb, .ref mo, .int us, .int me, .int rc, .int (zb o_dn_88), .int o_lf_89, .int o_mw_90, .int o_mf_91, .ref m_p, .ref m_w, .ref m_l, .ref m_v, .int ms, .int mu, .long ml, .ref m_r, .int o_mz_84, .ref m_q])), (mo, .inl (y 4, 2, .inr (.inr (.inr (.inr (outr m1 m2)))))), (m1, .inl (y 0, nb, .inl o_c1_92)), (m2, .inl (y 0, nb, .inl o_c2_93)), (m_p, .inl (y 1, 121, .inl mpa)), (m_w, .inl (y 1, 121, .inl mwe)), (m_l, .inl (y 3, 121, .inl mli)), (m_v, .inl (y 2, 121, .inr (.inl mvo))), (m_r, .inl (y 0, 32, .inl o_mro_85)), (m_q, .inl (y 1, 260, .inl mpl))]) hfix (cX9_writeRow_ok l D y am mo m1 m2 m_p m_w m_l m_v m_r m_q nb th mb us me rc v114_3 v114_4 v114_5 v114_6 ms mu ml o_mz_84 v114_8 v114_9 mpa mwe mli mvo o_mro_85 mpl v114_0 v114_1 _ hc_94) (cwV 2 hts gX9_compact_X9_writeRow rfl rfl rfl (by decide +kernel) ⟨Nat.le_of_ble_eq_true rfl, Nat.le_of_ble_eq_true rfl⟩) E hP hD hS [0, 1, 2, 3, 4, 5, 6, 7, 8, 9] [] [0, 1, 2, 3, 4, 5, 6, 7, 8, 9] rfl rfl rfl rfl (by decide) rfl rfl 0 8 rfl rfl rfl hl.1 rfl (Nat.le_of_ble_eq_true rfl) dX9_compact_180 ⟨Nat.zero_le _, Nat.zero_le _⟩ (fun H locs hP hD hS => ?_)
          refine W.eq (g2 := F0 m 183 ls [.int (zb r_87)]) rfl ?_
          refine lv_if_ne (tgt := 188) hx hb dX9_compact_183 (by decide) (fun c_95 => ?_) (fun c_95 => ?_)
          · have hf := ifn hf c_95
            refine lv_iload_n hx hb dX9_compact_188 rfl (lv_at hl 2 rfl) ?_
            refine lv_aload_n hx hb dX9_compact_189 rfl (lv_at hl 0 rfl) ?_
            refine va_get (D := D) (ci := 8) (v := .int o_mz_84) (C := RX9) (T := TX9) (N := 20) hx hb hts iX9 hown hK hP 0 rfl rfl 18 (by decide) (hts (.fieldLink RX9 43 "SampleTrackerModel" "size" "I") (by decide +kernel)) (fun _ h9 => h9) rfl dX9_compact_190 ?_
            refine lv_iadd hx hb dX9_compact_193 ?_
            refine lv_istore_n (lv' := [(2, .int (v114_1 + o_mz_84)), (0, .ref am), (1, .int v114_0), (3, .int v114_2)]) hx hb dX9_compact_194 rfl hl (by decide) rfl (fun ls hl => ?_)
            refine lv_iinc (v := (v114_2 + (1 : Int32))) (lv' := [(3, .int (v114_2 + (1 : Int32))), (2, .int (v114_1 + o_mz_84)), (0, .ref am), (1, .int v114_0)]) hx hb dX9_compact_195 hl (k := 3) rfl rfl (by decide) rfl (fun ls hl => ?_)
            refine lv_goto (tgt := 114) hx hb dX9_compact_198 (by decide) ?_
            exact ih114 v114_0 (v114_1 + o_mz_84) (v114_2 + (1 : Int32)) o_dn_88 o_lf_89 o_mw_90 o_mf_91 o_mz_84 o_c1_92 o_c2_93 o_mro_85 _ _ _ hf hP hD hS (lv_sub hl [2, 3, 1, 0] rfl)
          · have hf := ifp hf c_95
            refine lv_iconst (v := (-1 : Int32)) hx hb dX9_compact_186 (by decide) ?_
            obtain rfl := Option.some.inj hf
            exact W.iret hx hb hr (fun t ht hW => ⟨⟨(), rfl, by rw [ht]; exact hP, hD⟩, hS.F ht⟩) hS.2.2 dX9_compact_187
  have hL47 : ∀ (n47 : Nat) (v47_0 : Int32) (v47_1 : Int32) (v47_2 : Bool) (v47_3 : Int32) (v47_4 : Int32) (v47_5 : Int32) (v47_6 : Nat → Int32) (v47_7 : Nat → Int32) (H : Heap) (locs : List Loc) (ls : Array Slot), fX9_compact_47 nb mb us me rc ms mu ml mz mpa mwe mli mvo mro mpl n47 v47_0 v47_1 v47_2 v47_3 v47_4 v47_5 v47_6 v47_7 = some res → va_P D vwCl [(am, .inr (8, [.int th, .int mb, .ref mo, .int us, .int me, .int rc, .int (zb v47_2), .int v47_3, .int v47_4, .int v47_5, .ref m_p, .ref m_w, .ref m_l, .ref m_v, .int ms, .int mu, .long ml, .ref m_r, .int mz, .ref m_q])), (mo, .inl (y 4, 2, .inr (.inr (.inr (.inr (outr m1 m2)))))), (m1, .inl (y 0, nb, .inl v47_6)), (m2, .inl (y 0, nb, .inl v47_7)), (m_p, .inl (y 1, 121, .inl mpa)), (m_w, .inl (y 1, 121, .inl mwe)), (m_l, .inl (y 3, 121, .inl mli)), (m_v, .inl (y 2, 121, .inr (.inl mvo))), (m_r, .inl (y 0, 32, .inl mro)), (m_q, .inl (y 1, 260, .inl mpl))] H → va_D A [(am, .inr (8, [.int th, .int mb, .ref mo, .int us, .int me, .int rc, .int (zb v47_2), .int v47_3, .int v47_4, .int v47_5, .ref m_p, .ref m_w, .ref m_l, .ref m_v, .int ms, .int mu, .long ml, .ref m_r, .int mz, .ref m_q])), (mo, .inl (y 4, 2, .inr (.inr (.inr (.inr (outr m1 m2)))))), (m1, .inl (y 0, nb, .inl v47_6)), (m2, .inl (y 0, nb, .inl v47_7)), (m_p, .inl (y 1, 121, .inl mpa)), (m_w, .inl (y 1, 121, .inl mwe)), (m_l, .inl (y 3, 121, .inl mli)), (m_v, .inl (y 2, 121, .inr (.inl mvo))), (m_r, .inl (y 0, 32, .inl mro)), (m_q, .inl (y 1, 260, .inl mpl))] → va_S A s.heap H locs → lv_has ls 4 [(0, .ref am), (1, .int v47_0), (2, .int v47_1)] → W p l e (headSpec wsX9_compact ({ frames := 4, cells := 0, slots := 0, locals := 85 } : Room)).room s m ([.ref am] : List Value).toArray below meth c H locs 0 0 (MQ below (Po D (fun _ : Unit => some (.int res.1)) (fun _ => [(am, .inr (8, [.int th, .int mb, .ref mo, .int res.2.1, .int res.2.2.1, .int res.2.2.2.1, .int (zb res.2.2.2.2.1), .int res.2.2.2.2.2.1, .int res.2.2.2.2.2.2.1, .int res.2.2.2.2.2.2.2.1, .ref m_p, .ref m_w, .ref m_l, .ref m_v, .int res.2.2.2.2.2.2.2.2.1, .int res.2.2.2.2.2.2.2.2.2.1, .long res.2.2.2.2.2.2.2.2.2.2.1, .ref m_r, .int res.2.2.2.2.2.2.2.2.2.2.2.1, .ref m_q])), (mo, .inl (y 4, 2, .inr (.inr (.inr (.inr (outr m1 m2)))))), (m1, .inl (y 0, nb, .inl res.2.2.2.2.2.2.2.2.2.2.2.2.1)), (m2, .inl (y 0, nb, .inl res.2.2.2.2.2.2.2.2.2.2.2.2.2.1)), (m_p, .inl (y 1, 121, .inl res.2.2.2.2.2.2.2.2.2.2.2.2.2.2.1)), (m_w, .inl (y 1, 121, .inl res.2.2.2.2.2.2.2.2.2.2.2.2.2.2.2.1)), (m_l, .inl (y 3, 121, .inl res.2.2.2.2.2.2.2.2.2.2.2.2.2.2.2.2.1)), (m_v, .inl (y 2, 121, .inr (.inl res.2.2.2.2.2.2.2.2.2.2.2.2.2.2.2.2.2.1))), (m_r, .inl (y 0, 32, .inl res.2.2.2.2.2.2.2.2.2.2.2.2.2.2.2.2.2.2.1)), (m_q, .inl (y 1, 260, .inl res.2.2.2.2.2.2.2.2.2.2.2.2.2.2.2.2.2.2.2))]) A) ([.ref am] : List Value).toArray s 0 0 A) (F0 m 47 ls []) := by
    intro n47
    induction n47 with
    | zero =>
      intro v47_0 v47_1 v47_2 v47_3 v47_4 v47_5 v47_6 v47_7 H locs ls hf
      exact absurd (show (none : Option (Int32 × Int32 × Int32 × Int32 × Bool × Int32 × Int32 × Int32 × Int32 × Int32 × Int64 × Int32 × (Nat → Int32) × (Nat → Int32) × (Nat → Int32) × (Nat → Int32) × (Nat → Int32) × (Nat → Int64) × (Nat → Int32) × (Nat → Int32))) = some res from hf) (fun q => by cases q)
    | succ n47 ih47 =>
      intro v47_0 v47_1 v47_2 v47_3 v47_4 v47_5 v47_6 v47_7 H locs ls hf hP hD hS hl
      unfold fX9_compact_47 at hf
      refine lv_iload_n hx hb dX9_compact_47 rfl (lv_at hl 2 rfl) ?_
      refine lv_aload_n hx hb dX9_compact_48 rfl (lv_at hl 0 rfl) ?_
      refine va_get (D := D) (ci := 8) (v := .int mb) (C := RX9) (T := TX9) (N := 20) hx hb hts iX9 hown hK hP 0 rfl rfl 1 (by decide) (hts (.fieldLink RX9 35 "SampleTrackerModel" "bytes" "I") (by decide +kernel)) (fun _ h9 => h9) rfl dX9_compact_49 ?_
      refine lv_icmp_ge (tgt := 73) hx hb dX9_compact_52 (by decide) (fun c_96 => ?_) (fun c_96 => ?_)
      · have hf := ifp hf c_96
        refine lv_bipush (v := (9 : Int32)) hx hb dX9_compact_73 (by decide) ?_
        refine lv_istore_n (lv' := [(2, .int (9 : Int32)), (0, .ref am), (1, .int v47_0)]) hx hb dX9_compact_75 rfl hl (by decide) rfl (fun ls hl => ?_)
        refine lv_aload_n hx hb dX9_compact_76 rfl (lv_at hl 1 rfl) ?_
        refine lv_bipush (v := (7 : Int32)) hx hb dX9_compact_77 (by decide) ?_
        obtain ⟨⟨o_mz_97, o_mro_98⟩, hc_99, hf⟩ := obd hf
        refine ct_V (As := [.int (7 : Int32)]) (rest := []) (wr := []) (wn := [(am, .inr (8, [.int th, .int mb, .ref mo, .int us, .int me, .int rc, .int (zb v47_2), .int v47_3, .int v47_4, .int v47_5, .ref m_p, .ref m_w, .ref m_l, .ref m_v, .int ms, .int mu, .long ml, .ref m_r, .int o_mz_97, .ref m_q])), (mo, .inl (y 4, 2, .inr (.inr (.inr (.inr (outr m1 m2)))))), (m1, .inl (y 0, nb, .inl v47_6)), (m2, .inl (y 0, nb, .inl v47_7)), (m_p, .inl (y 1, 121, .inl mpa)), (m_w, .inl (y 1, 121, .inl mwe)), (m_l, .inl (y 3, 121, .inl mli)), (m_v, .inl (y 2, 121, .inr (.inl mvo))), (m_r, .inl (y 0, 32, .inl o_mro_98)), (m_q, .inl (y 1, 260, .inl mpl))]) hfix (cX9_begin_ok l D y am mo m1 m2 m_p m_w m_l m_v m_r m_q nb th mb us me rc v47_2 v47_3 v47_4 v47_5 ms mu ml mz v47_6 v47_7 mpa mwe mli mvo mro mpl (7 : Int32) _ hc_99) (cwV 1 hts gX9_compact_X9_begin rfl rfl rfl (by decide +kernel) ⟨Nat.le_of_ble_eq_true rfl, Nat.le_of_ble_eq_true rfl⟩) E hP hD hS [0, 1, 2, 3, 4, 5, 6, 7, 8, 9] [] [0, 1, 2, 3, 4, 5, 6, 7, 8, 9] rfl rfl rfl rfl (by decide) rfl rfl 0 8 rfl rfl rfl hl.1 rfl (Nat.le_of_ble_eq_true rfl) dX9_compact_79 ⟨Nat.zero_le _, Nat.zero_le _⟩ (fun H locs hP hD hS => ?_)
        refine W.eq (g2 := F0 m 82 ls []) rfl ?_
        refine lv_aload_n hx hb dX9_compact_82 rfl (lv_at hl 1 rfl) ?_
        refine lv_aload_n hx hb dX9_compact_83 rfl (lv_at hl 1 rfl) ?_
        refine va_get (D := D) (ci := 8) (v := .long ml) (C := RX9) (T := TX9) (N := 20) hx hb hts iX9 hown hK hP 0 rfl rfl 16 (by decide) (hts (.fieldLink RX9 118 "SampleTrackerModel" "lost" "J") (by decide +kernel)) (fun _ h9 => h9) rfl dX9_compact_84 ?_
        obtain ⟨⟨o_mz_100, o_mro_101⟩, hc_102, hf⟩ := obd hf
        refine ct_V (As := [.long ml]) (rest := []) (wr := []) (wn := [(am, .inr (8, [.int th, .int mb, .ref mo, .int us, .int me, .int rc, .int (zb v47_2), .int v47_3, .int v47_4, .int v47_5, .ref m_p, .ref m_w, .ref m_l, .ref m_v, .int ms, .int mu, .long ml, .ref m_r, .int o_mz_100, .ref m_q])), (mo, .inl (y 4, 2, .inr (.inr (.inr (.inr (outr m1 m2)))))), (m1, .inl (y 0, nb, .inl v47_6)), (m2, .inl (y 0, nb, .inl v47_7)), (m_p, .inl (y 1, 121, .inl mpa)), (m_w, .inl (y 1, 121, .inl mwe)), (m_l, .inl (y 3, 121, .inl mli)), (m_v, .inl (y 2, 121, .inr (.inl mvo))), (m_r, .inl (y 0, 32, .inl o_mro_101)), (m_q, .inl (y 1, 260, .inl mpl))]) hfix (cX9_u8_ok l D y am mo m1 m2 m_p m_w m_l m_v m_r m_q nb th mb us me rc v47_2 v47_3 v47_4 v47_5 ms mu ml o_mz_97 v47_6 v47_7 mpa mwe mli mvo o_mro_98 mpl ml _ hc_102) (cwV 1 hts gX9_compact_X9_u8 rfl rfl rfl (by decide +kernel) ⟨Nat.le_of_ble_eq_true rfl, Nat.le_of_ble_eq_true rfl⟩) E hP hD hS [0, 1, 2, 3, 4, 5, 6, 7, 8, 9] [] [0, 1, 2, 3, 4, 5, 6, 7, 8, 9] rfl rfl rfl rfl (by decide) rfl rfl 0 8 rfl rfl rfl hl.1 rfl (Nat.le_of_ble_eq_true rfl) dX9_compact_87 ⟨Nat.zero_le _, Nat.zero_le _⟩ (fun H locs hP hD hS => ?_)
        refine W.eq (g2 := F0 m 90 ls []) rfl ?_
        refine lv_aload_n hx hb dX9_compact_90 rfl (lv_at hl 1 rfl) ?_
        obtain ⟨⟨o_mz_103, o_mro_104⟩, hc_105, hf⟩ := obd hf
        refine ct_V (As := []) (rest := []) (wr := []) (wn := [(am, .inr (8, [.int th, .int mb, .ref mo, .int us, .int me, .int rc, .int (zb v47_2), .int v47_3, .int v47_4, .int v47_5, .ref m_p, .ref m_w, .ref m_l, .ref m_v, .int ms, .int mu, .long ml, .ref m_r, .int o_mz_103, .ref m_q])), (mo, .inl (y 4, 2, .inr (.inr (.inr (.inr (outr m1 m2)))))), (m1, .inl (y 0, nb, .inl v47_6)), (m2, .inl (y 0, nb, .inl v47_7)), (m_p, .inl (y 1, 121, .inl mpa)), (m_w, .inl (y 1, 121, .inl mwe)), (m_l, .inl (y 3, 121, .inl mli)), (m_v, .inl (y 2, 121, .inr (.inl mvo))), (m_r, .inl (y 0, 32, .inl o_mro_104)), (m_q, .inl (y 1, 260, .inl mpl))]) hfix (cX9_checked_ok l D y am mo m1 m2 m_p m_w m_l m_v m_r m_q nb th mb us me rc v47_2 v47_3 v47_4 v47_5 ms mu ml o_mz_100 v47_6 v47_7 mpa mwe mli mvo o_mro_101 mpl _ hc_105) (cwV 0 hts gX9_compact_X9_checked rfl rfl rfl (by decide +kernel) ⟨Nat.le_of_ble_eq_true rfl, Nat.le_of_ble_eq_true rfl⟩) E hP hD hS [0, 1, 2, 3, 4, 5, 6, 7, 8, 9] [] [0, 1, 2, 3, 4, 5, 6, 7, 8, 9] rfl rfl rfl rfl (by decide) rfl rfl 0 8 rfl rfl rfl hl.1 rfl (Nat.le_of_ble_eq_true rfl) dX9_compact_91 ⟨Nat.zero_le _, Nat.zero_le _⟩ (fun H locs hP hD hS => ?_)
        refine W.eq (g2 := F0 m 94 ls []) rfl ?_
        refine lv_aload_n hx hb dX9_compact_94 rfl (lv_at hl 1 rfl) ?_
        refine lv_iload_n hx hb dX9_compact_95 rfl (lv_at hl 2 rfl) ?_
        refine lv_iload_n hx hb dX9_compact_96 rfl (lv_at hl 0 rfl) ?_
        obtain ⟨⟨r_106, o_dn_107, o_lf_108, o_mw_109, o_mf_110, o_c1_111, o_c2_112⟩, hc_113, hf⟩ := obd hf
        refine ct_V (As := [.int v47_0, .int (9 : Int32)]) (rest := []) (wr := []) (wn := [(am, .inr (8, [.int th, .int mb, .ref mo, .int us, .int me, .int rc, .int (zb o_dn_107), .int o_lf_108, .int o_mw_109, .int o_mf_110, .ref m_p, .ref m_w, .ref m_l, .ref m_v, .int ms, .int mu, .long ml, .ref m_r, .int o_mz_103, .ref m_q])), (mo, .inl (y 4, 2, .inr (.inr (.inr (.inr (outr m1 m2)))))), (m1, .inl (y 0, nb, .inl o_c1_111)), (m2, .inl (y 0, nb, .inl o_c2_112)), (m_p, .inl (y 1, 121, .inl mpa)), (m_w, .inl (y 1, 121, .inl mwe)), (m_l, .inl (y 3, 121, .inl mli)), (m_v, .inl (y 2, 121, .inr (.inl mvo))), (m_r, .inl (y 0, 32, .inl o_mro_104)), (m_q, .inl (y 1, 260, .inl mpl))]) hfix (cX9_writeRow_ok l D y am mo m1 m2 m_p m_w m_l m_v m_r m_q nb th mb us me rc v47_2 v47_3 v47_4 v47_5 ms mu ml o_mz_103 v47_6 v47_7 mpa mwe mli mvo o_mro_104 mpl v47_0 (9 : Int32) _ hc_113) (cwV 2 hts gX9_compact_X9_writeRow rfl rfl rfl (by decide +kernel) ⟨Nat.le_of_ble_eq_true rfl, Nat.le_of_ble_eq_true rfl⟩) E hP hD hS [0, 1, 2, 3, 4, 5, 6, 7, 8, 9] [] [0, 1, 2, 3, 4, 5, 6, 7, 8, 9] rfl rfl rfl rfl (by decide) rfl rfl 0 8 rfl rfl rfl hl.1 rfl (Nat.le_of_ble_eq_true rfl) dX9_compact_97 ⟨Nat.zero_le _, Nat.zero_le _⟩ (fun H locs hP hD hS => ?_)
        refine W.eq (g2 := F0 m 100 ls [.int (zb r_106)]) rfl ?_
        refine lv_if_ne (tgt := 105) hx hb dX9_compact_100 (by decide) (fun c_114 => ?_) (fun c_114 => ?_)
        · have hf := ifn hf c_114
          refine lv_iload_n hx hb dX9_compact_105 rfl (lv_at hl 0 rfl) ?_
          refine lv_aload_n hx hb dX9_compact_106 rfl (lv_at hl 1 rfl) ?_
          refine va_get (D := D) (ci := 8) (v := .int o_mz_103) (C := RX9) (T := TX9) (N := 20) hx hb hts iX9 hown hK hP 0 rfl rfl 18 (by decide) (hts (.fieldLink RX9 43 "SampleTrackerModel" "size" "I") (by decide +kernel)) (fun _ h9 => h9) rfl dX9_compact_107 ?_
          refine lv_iadd hx hb dX9_compact_110 ?_
          refine lv_istore_n (lv' := [(2, .int ((9 : Int32) + o_mz_103)), (0, .ref am), (1, .int v47_0)]) hx hb dX9_compact_111 rfl hl (by decide) rfl (fun ls hl => ?_)
          refine lv_iconst (v := (1 : Int32)) hx hb dX9_compact_112 (by decide) ?_
          refine lv_istore_n (lv' := [(3, .int (1 : Int32)), (2, .int ((9 : Int32) + o_mz_103)), (0, .ref am), (1, .int v47_0)]) hx hb dX9_compact_113 rfl hl (by decide) rfl (fun ls hl => ?_)
          exact hL114 FU v47_0 ((9 : Int32) + o_mz_103) (1 : Int32) o_dn_107 o_lf_108 o_mw_109 o_mf_110 o_mz_103 o_c1_111 o_c2_112 o_mro_104 _ _ _ hf hP hD hS (lv_sub hl [2, 3, 1, 0] rfl)
        · have hf := ifp hf c_114
          refine lv_iconst (v := (-1 : Int32)) hx hb dX9_compact_103 (by decide) ?_
          obtain rfl := Option.some.inj hf
          exact W.iret hx hb hr (fun t ht hW => ⟨⟨(), rfl, by rw [ht]; exact hP, hD⟩, hS.F ht⟩) hS.2.2 dX9_compact_104
      · have hf := ifn hf c_96
        refine lv_aload_n hx hb dX9_compact_55 rfl (lv_at hl 0 rfl) ?_
        refine lv_iload_n hx hb dX9_compact_56 rfl (lv_at hl 1 rfl) ?_
        refine lv_iload_n hx hb dX9_compact_57 rfl (lv_at hl 2 rfl) ?_
        refine lv_iconst (v := (0 : Int32)) hx hb dX9_compact_58 (by decide) ?_
        obtain ⟨⟨r_115, o_dn_116, o_lf_117, o_mw_118, o_mf_119, o_c1_120, o_c2_121⟩, hc_122, hf⟩ := obd hf
        refine ct_V (As := [.int v47_0, .int v47_1, .int (0 : Int32)]) (rest := []) (wr := []) (wn := [(am, .inr (8, [.int th, .int mb, .ref mo, .int us, .int me, .int rc, .int (zb o_dn_116), .int o_lf_117, .int o_mw_118, .int o_mf_119, .ref m_p, .ref m_w, .ref m_l, .ref m_v, .int ms, .int mu, .long ml, .ref m_r, .int mz, .ref m_q])), (mo, .inl (y 4, 2, .inr (.inr (.inr (.inr (outr m1 m2)))))), (m1, .inl (y 0, nb, .inl o_c1_120)), (m2, .inl (y 0, nb, .inl o_c2_121)), (m_p, .inl (y 1, 121, .inl mpa)), (m_w, .inl (y 1, 121, .inl mwe)), (m_l, .inl (y 3, 121, .inl mli)), (m_v, .inl (y 2, 121, .inr (.inl mvo))), (m_r, .inl (y 0, 32, .inl mro)), (m_q, .inl (y 1, 260, .inl mpl))]) hfix (cX9_write_ok l D y am mo m1 m2 m_p m_w m_l m_v m_r m_q nb th mb us me rc v47_2 v47_3 v47_4 v47_5 ms mu ml mz v47_6 v47_7 mpa mwe mli mvo mro mpl v47_0 v47_1 (0 : Int32) _ hc_122) (cwV 3 hts gX9_compact_X9_write rfl rfl rfl (by decide +kernel) ⟨Nat.le_of_ble_eq_true rfl, Nat.le_of_ble_eq_true rfl⟩) E hP hD hS [0, 1, 2, 3, 4, 5, 6, 7, 8, 9] [] [0, 1, 2, 3, 4, 5, 6, 7, 8, 9] rfl rfl rfl rfl (by decide) rfl rfl 0 8 rfl rfl rfl hl.1 rfl (Nat.le_of_ble_eq_true rfl) dX9_compact_59 ⟨Nat.zero_le _, Nat.zero_le _⟩ (fun H locs hP hD hS => ?_)
        refine W.eq (g2 := F0 m 62 ls [.int (zb r_115)]) rfl ?_
        refine lv_if_ne (tgt := 67) hx hb dX9_compact_62 (by decide) (fun c_123 => ?_) (fun c_123 => ?_)
        · have hf := ifn hf c_123
          refine lv_iinc (v := (v47_1 + (1 : Int32))) (lv' := [(2, .int (v47_1 + (1 : Int32))), (0, .ref am), (1, .int v47_0)]) hx hb dX9_compact_67 hl (k := 2) rfl rfl (by decide) rfl (fun ls hl => ?_)
          refine lv_goto (tgt := 47) hx hb dX9_compact_70 (by decide) ?_
          exact ih47 v47_0 (v47_1 + (1 : Int32)) o_dn_116 o_lf_117 o_mw_118 o_mf_119 o_c1_120 o_c2_121 _ _ _ hf hP hD hS (lv_sub hl [1, 2, 0] rfl)
        · have hf := ifp hf c_123
          refine lv_iconst (v := (-1 : Int32)) hx hb dX9_compact_65 (by decide) ?_
          obtain rfl := Option.some.inj hf
          exact W.iret hx hb hr (fun t ht hW => ⟨⟨(), rfl, by rw [ht]; exact hP, hD⟩, hS.F ht⟩) hS.2.2 dX9_compact_66
  unfold fX9_compact at hf
  refine lv_aload_n hx hb dX9_compact_0 rfl (lv_at hl 0 rfl) ?_
  refine va_get (D := D) (ci := 8) (v := .int (zb dn)) (C := RX9) (T := TX9) (N := 20) hx hb hts iX9 hown hK hP 0 rfl rfl 6 (by decide) (hts (.fieldLink RX9 77 "SampleTrackerModel" "isDown" "Z") (by decide +kernel)) (fun _ h9 => h9) rfl dX9_compact_1 ?_
  refine lv_if_eq (tgt := 9) hx hb dX9_compact_4 (by decide) (fun c_124 => ?_) (fun c_124 => ?_)
  · have hf := ifp hf c_124
    refine lv_iconst (v := (1 : Int32)) hx hb dX9_compact_9 (by decide) ?_
    refine lv_aload_n hx hb dX9_compact_10 rfl (lv_at hl 0 rfl) ?_
    refine va_get (D := D) (ci := 8) (v := .int us) (C := RX9) (T := TX9) (N := 20) hx hb hts iX9 hown hK hP 0 rfl rfl 3 (by decide) (hts (.fieldLink RX9 100 "SampleTrackerModel" "use" "I") (by decide +kernel)) (fun _ h9 => h9) rfl dX9_compact_11 ?_
    refine lv_isub hx hb dX9_compact_14 ?_
    refine lv_istore_n (lv' := [(1, .int ((1 : Int32) - us)), (0, .ref am)]) hx hb dX9_compact_15 rfl hl (by decide) rfl (fun ls hl => ?_)
    refine lv_bipush (v := (9 : Int32)) hx hb dX9_compact_16 (by decide) ?_
    refine lv_bipush (v := (7 : Int32)) hx hb dX9_compact_18 (by decide) ?_
    obtain ⟨r_125, hc_126, hf⟩ := obd hf
    refine ct_S (As := [.int (7 : Int32)]) (rest := [.int (9 : Int32)]) (wr := [(am, .inr (8, [.int th, .int mb, .ref mo, .int us, .int me, .int rc, .int (zb dn), .int lf, .int mw, .int mf, .ref m_p, .ref m_w, .ref m_l, .ref m_v, .int ms, .int mu, .long ml, .ref m_r, .int mz, .ref m_q])), (mo, .inl (y 4, 2, .inr (.inr (.inr (.inr (outr m1 m2)))))), (m1, .inl (y 0, nb, .inl c1)), (m2, .inl (y 0, nb, .inl c2)), (m_p, .inl (y 1, 121, .inl mpa)), (m_w, .inl (y 1, 121, .inl mwe)), (m_l, .inl (y 3, 121, .inl mli)), (m_v, .inl (y 2, 121, .inr (.inl mvo))), (m_r, .inl (y 0, 32, .inl mro)), (m_q, .inl (y 1, 260, .inl mpl))]) (wn := [(am, .inr (8, [.int th, .int mb, .ref mo, .int us, .int me, .int rc, .int (zb dn), .int lf, .int mw, .int mf, .ref m_p, .ref m_w, .ref m_l, .ref m_v, .int ms, .int mu, .long ml, .ref m_r, .int mz, .ref m_q])), (mo, .inl (y 4, 2, .inr (.inr (.inr (.inr (outr m1 m2)))))), (m1, .inl (y 0, nb, .inl c1)), (m2, .inl (y 0, nb, .inl c2)), (m_p, .inl (y 1, 121, .inl mpa)), (m_w, .inl (y 1, 121, .inl mwe)), (m_l, .inl (y 3, 121, .inl mli)), (m_v, .inl (y 2, 121, .inr (.inl mvo))), (m_r, .inl (y 0, 32, .inl mro)), (m_q, .inl (y 1, 260, .inl mpl))]) hfix (cX9_lengthOf_ok l D y (7 : Int32) _ hc_126) (va_cwS 1 hts gX9_compact_X9_lengthOf rfl rfl rfl (by decide +kernel) ⟨Nat.le_of_ble_eq_true rfl, Nat.le_of_ble_eq_true rfl⟩) E hP hD hS [] [0, 1, 2, 3, 4, 5, 6, 7, 8, 9] [0, 1, 2, 3, 4, 5, 6, 7, 8, 9] rfl rfl rfl rfl (by decide) rfl rfl rfl hl.1 rfl (Nat.le_of_ble_eq_true rfl) dX9_compact_20 ⟨Nat.zero_le _, Nat.zero_le _⟩ (fun H locs hP hD hS => ?_)
    refine W.eq (g2 := F0 m 23 ls [.int r_125, .int (9 : Int32)]) rfl ?_
    refine lv_iadd hx hb dX9_compact_23 ?_
    refine lv_aload_n hx hb dX9_compact_24 rfl (lv_at hl 1 rfl) ?_
    refine va_get (D := D) (ci := 8) (v := .int ms) (C := RX9) (T := TX9) (N := 20) hx hb hts iX9 hown hK hP 0 rfl rfl 14 (by decide) (hts (.fieldLink RX9 115 "SampleTrackerModel" "samples" "I") (by decide +kernel)) (fun _ h9 => h9) rfl dX9_compact_25 ?_
    refine lv_bipush (v := (6 : Int32)) hx hb dX9_compact_28 (by decide) ?_
    obtain ⟨r_127, hc_128, hf⟩ := obd hf
    refine ct_S (As := [.int (6 : Int32)]) (rest := [.int ms, .int ((9 : Int32) + r_125)]) (wr := [(am, .inr (8, [.int th, .int mb, .ref mo, .int us, .int me, .int rc, .int (zb dn), .int lf, .int mw, .int mf, .ref m_p, .ref m_w, .ref m_l, .ref m_v, .int ms, .int mu, .long ml, .ref m_r, .int mz, .ref m_q])), (mo, .inl (y 4, 2, .inr (.inr (.inr (.inr (outr m1 m2)))))), (m1, .inl (y 0, nb, .inl c1)), (m2, .inl (y 0, nb, .inl c2)), (m_p, .inl (y 1, 121, .inl mpa)), (m_w, .inl (y 1, 121, .inl mwe)), (m_l, .inl (y 3, 121, .inl mli)), (m_v, .inl (y 2, 121, .inr (.inl mvo))), (m_r, .inl (y 0, 32, .inl mro)), (m_q, .inl (y 1, 260, .inl mpl))]) (wn := [(am, .inr (8, [.int th, .int mb, .ref mo, .int us, .int me, .int rc, .int (zb dn), .int lf, .int mw, .int mf, .ref m_p, .ref m_w, .ref m_l, .ref m_v, .int ms, .int mu, .long ml, .ref m_r, .int mz, .ref m_q])), (mo, .inl (y 4, 2, .inr (.inr (.inr (.inr (outr m1 m2)))))), (m1, .inl (y 0, nb, .inl c1)), (m2, .inl (y 0, nb, .inl c2)), (m_p, .inl (y 1, 121, .inl mpa)), (m_w, .inl (y 1, 121, .inl mwe)), (m_l, .inl (y 3, 121, .inl mli)), (m_v, .inl (y 2, 121, .inr (.inl mvo))), (m_r, .inl (y 0, 32, .inl mro)), (m_q, .inl (y 1, 260, .inl mpl))]) hfix (cX9_lengthOf_ok l D y (6 : Int32) _ hc_128) (va_cwS 1 hts gX9_compact_X9_lengthOf rfl rfl rfl (by decide +kernel) ⟨Nat.le_of_ble_eq_true rfl, Nat.le_of_ble_eq_true rfl⟩) E hP hD hS [] [0, 1, 2, 3, 4, 5, 6, 7, 8, 9] [0, 1, 2, 3, 4, 5, 6, 7, 8, 9] rfl rfl rfl rfl (by decide) rfl rfl rfl hl.1 rfl (Nat.le_of_ble_eq_true rfl) dX9_compact_30 ⟨Nat.zero_le _, Nat.zero_le _⟩ (fun H locs hP hD hS => ?_)
    refine W.eq (g2 := F0 m 33 ls [.int r_127, .int ms, .int ((9 : Int32) + r_125)]) rfl ?_
    refine lv_imul hx hb dX9_compact_33 ?_
    refine lv_iadd hx hb dX9_compact_34 ?_
    refine lv_aload_n hx hb dX9_compact_35 rfl (lv_at hl 1 rfl) ?_
    refine va_get (D := D) (ci := 8) (v := .int mb) (C := RX9) (T := TX9) (N := 20) hx hb hts iX9 hown hK hP 0 rfl rfl 1 (by decide) (hts (.fieldLink RX9 35 "SampleTrackerModel" "bytes" "I") (by decide +kernel)) (fun _ h9 => h9) rfl dX9_compact_36 ?_
    refine lv_icmp_le (tgt := 45) hx hb dX9_compact_39 (by decide) (fun c_129 => ?_) (fun c_129 => ?_)
    · have hf := ifp hf c_129
      refine lv_iconst (v := (0 : Int32)) hx hb dX9_compact_45 (by decide) ?_
      refine lv_istore_n (lv' := [(2, .int (0 : Int32)), (1, .int ((1 : Int32) - us)), (0, .ref am)]) hx hb dX9_compact_46 rfl hl (by decide) rfl (fun ls hl => ?_)
      exact hL47 FU ((1 : Int32) - us) (0 : Int32) dn lf mw mf c1 c2 _ _ _ hf hP hD hS (lv_sub hl [2, 1, 0] rfl)
    · have hf := ifn hf c_129
      refine lv_bipush (v := (-6 : Int32)) hx hb dX9_compact_42 (by decide) ?_
      obtain rfl := Option.some.inj hf
      exact W.iret hx hb hr (fun t ht hW => ⟨⟨(), rfl, by rw [ht]; exact hP, hD⟩, hS.F ht⟩) hS.2.2 dX9_compact_44
  · have hf := ifn hf c_124
    refine lv_iconst (v := (-1 : Int32)) hx hb dX9_compact_7 (by decide) ?_
    obtain rfl := Option.some.inj hf
    exact W.iret hx hb hr (fun t ht hW => ⟨⟨(), rfl, by rw [ht]; exact hP, hD⟩, hS.F ht⟩) hS.2.2 dX9_compact_8

def fX9_octet (nb : Nat) (mb : Int32) (c1 : Nat → Int32) (c2 : Nat → Int32) (p1 : Int32) (p2 : Int32) : Option (Int32) := (if p1 < 0 then some (-1 : Int32) else (if (1 : Int32) < p1 then some (-1 : Int32) else (if p2 < 0 then some (-1 : Int32) else (if p2 < mb then (if p1 = 0 then (if (ib p2 nb) = true then some ((c1 p2.toNatClampNeg) &&& (255 : Int32)) else none) else if p1 = 1 then (if (ib p2 nb) = true then some ((c2 p2.toNatClampNeg) &&& (255 : Int32)) else none) else none) else some (-1 : Int32)))))

set_option maxHeartbeats 4000000 in
set_option maxRecDepth 100000 in
theorem cX9_octet_ok (l : Launch) (D : va_G) (y : Nat → ClassId) (am : Nat) (mo : Nat) (m1 : Nat) (m2 : Nat) (m_p : Nat) (m_w : Nat) (m_l : Nat) (m_v : Nat) (m_r : Nat) (m_q : Nat) (nb : Nat) (th : Int32) (mb : Int32) (us : Int32) (me : Int32) (rc : Int32) (dn : Bool) (lf : Int32) (mw : Int32) (mf : Int32) (ms : Int32) (mu : Int32) (ml : Int64) (mz : Int32) (c1 : Nat → Int32) (c2 : Nat → Int32) (mpa : Nat → Int32) (mwe : Nat → Int32) (mli : Nat → Int32) (mvo : Nat → Int64) (mro : Nat → Int32) (mpl : Nat → Int32) (p1 : Int32) (p2 : Int32) (res : Int32) (hf : fX9_octet nb mb c1 c2 p1 p2 = some res) : CT l D y yX9_octet wsX9_octet ({ frames := 0, cells := 0, slots := 0, locals := 0 } : Room) [.ref am, .int p1, .int p2] [(am, .inr (8, [.int th, .int mb, .ref mo, .int us, .int me, .int rc, .int (zb dn), .int lf, .int mw, .int mf, .ref m_p, .ref m_w, .ref m_l, .ref m_v, .int ms, .int mu, .long ml, .ref m_r, .int mz, .ref m_q])), (mo, .inl (y 4, 2, .inr (.inr (.inr (.inr (outr m1 m2)))))), (m1, .inl (y 0, nb, .inl c1)), (m2, .inl (y 0, nb, .inl c2)), (m_p, .inl (y 1, 121, .inl mpa)), (m_w, .inl (y 1, 121, .inl mwe)), (m_l, .inl (y 3, 121, .inl mli)), (m_v, .inl (y 2, 121, .inr (.inl mvo))), (m_r, .inl (y 0, 32, .inl mro)), (m_q, .inl (y 1, 260, .inl mpl))] (some (.int res)) [(am, .inr (8, [.int th, .int mb, .ref mo, .int us, .int me, .int rc, .int (zb dn), .int lf, .int mw, .int mf, .ref m_p, .ref m_w, .ref m_l, .ref m_v, .int ms, .int mu, .long ml, .ref m_r, .int mz, .ref m_q])), (mo, .inl (y 4, 2, .inr (.inr (.inr (.inr (outr m1 m2)))))), (m1, .inl (y 0, nb, .inl c1)), (m2, .inl (y 0, nb, .inl c2)), (m_p, .inl (y 1, 121, .inl mpa)), (m_w, .inl (y 1, 121, .inl mwe)), (m_l, .inl (y 3, 121, .inl mli)), (m_v, .inl (y 2, 121, .inr (.inl mvo))), (m_r, .inl (y 0, 32, .inl mro)), (m_q, .inl (y 1, 260, .inl mpl))] := by
  intro sz
  refine Met.ofW (cc := cX9_octet) (maxL := 3) (ret := (some .int)) (by decide) rfl ?_
  intro p e s m args below meth c s₁ B hml hv
  obtain ⟨rfl, hsz, hP, hK, hD0, hst, hno⟩ := hv
  have hx := B.exec
  have hb := B.bytes
  have hr := B.returns
  have hts := atoms_spec (ws := wsX9_octet) B.pre
  have hown : s.vm.findClass RX9 = some m.cls := findClass_of_methodNamed B.named
  have hlocks := B.notSynchronized
  subst hsz
  have hD := hD0.self (sz := s.heap.size)
  generalize hAe : va_A [(am, .inr (8, [.int th, .int mb, .ref mo, .int us, .int me, .int rc, .int (zb dn), .int lf, .int mw, .int mf, .ref m_p, .ref m_w, .ref m_l, .ref m_v, .int ms, .int mu, .long ml, .ref m_r, .int mz, .ref m_q])), (mo, .inl (y 4, 2, .inr (.inr (.inr (.inr (outr m1 m2)))))), (m1, .inl (y 0, nb, .inl c1)), (m2, .inl (y 0, nb, .inl c2)), (m_p, .inl (y 1, 121, .inl mpa)), (m_w, .inl (y 1, 121, .inl mwe)), (m_l, .inl (y 3, 121, .inl mli)), (m_v, .inl (y 2, 121, .inr (.inl mvo))), (m_r, .inl (y 0, 32, .inl mro)), (m_q, .inl (y 1, 260, .inl mpl))] s.heap.size = A at hD hst ⊢
  have hA : ∀ q : Nat, s.heap.size ≤ q → A q := fun q h => by rw [← hAe]; exact Or.inr h
  have hS : va_S A s.heap s.heap [] := va_S.rf
  have E : Ev D y A s := ⟨hK, hst, hno, hA⟩
  have hfix : CallFix p m c cX9_octet 3 s _ wsX9_octet RX9 := ⟨hx, hb, hml, hown, hts⟩
  have hP : va_P D vwCl [(am, .inr (8, [.int th, .int mb, .ref mo, .int us, .int me, .int rc, .int (zb dn), .int lf, .int mw, .int mf, .ref m_p, .ref m_w, .ref m_l, .ref m_v, .int ms, .int mu, .long ml, .ref m_r, .int mz, .ref m_q])), (mo, .inl (y 4, 2, .inr (.inr (.inr (.inr (outr m1 m2)))))), (m1, .inl (y 0, nb, .inl c1)), (m2, .inl (y 0, nb, .inl c2)), (m_p, .inl (y 1, 121, .inl mpa)), (m_w, .inl (y 1, 121, .inl mwe)), (m_l, .inl (y 3, 121, .inl mli)), (m_v, .inl (y 2, 121, .inr (.inl mvo))), (m_r, .inl (y 0, 32, .inl mro)), (m_q, .inl (y 1, 260, .inl mpl))] s.heap := hP
  have iX9 : ∀ w ∈ wsX90, w ∈ wsX9_octet := by decide +kernel
  have hl := lv_entry ([.ref am, .int p1, .int p2]) (n := 3) (Nat.le_of_ble_eq_true rfl)
  rw [lg_entry_eq]
  generalize (lg_sl ([.ref am, .int p1, .int p2]) ++ List.replicate (3 - (lg_sl ([.ref am, .int p1, .int p2])).length) Slot.unset).toArray = ls at hl ⊢
  have hl : lv_has ls 3 [(0, .ref am), (1, .int p1), (2, .int p2)] := hl
  unfold fX9_octet at hf
  refine lv_iload_n hx hb dX9_octet_0 rfl (lv_at hl 1 rfl) ?_
  refine lv_if_lt (tgt := 21) hx hb dX9_octet_1 (by decide) (fun c_1 => ?_) (fun c_1 => ?_)
  · have hf := ifp hf c_1
    refine lv_iconst (v := (-1 : Int32)) hx hb dX9_octet_21 (by decide) ?_
    refine lv_goto (tgt := 37) hx hb dX9_octet_22 (by decide) ?_
    obtain rfl := Option.some.inj hf
    exact W.iret hx hb hr (fun t ht hW => ⟨⟨(), rfl, by rw [ht]; exact hP, hD⟩, hS.F ht⟩) hS.2.2 dX9_octet_37
  · have hf := ifn hf c_1
    refine lv_iload_n hx hb dX9_octet_4 rfl (lv_at hl 1 rfl) ?_
    refine lv_iconst (v := (1 : Int32)) hx hb dX9_octet_5 (by decide) ?_
    refine lv_icmp_gt (tgt := 21) hx hb dX9_octet_6 (by decide) (fun c_2 => ?_) (fun c_2 => ?_)
    · have hf := ifp hf c_2
      refine lv_iconst (v := (-1 : Int32)) hx hb dX9_octet_21 (by decide) ?_
      refine lv_goto (tgt := 37) hx hb dX9_octet_22 (by decide) ?_
      obtain rfl := Option.some.inj hf
      exact W.iret hx hb hr (fun t ht hW => ⟨⟨(), rfl, by rw [ht]; exact hP, hD⟩, hS.F ht⟩) hS.2.2 dX9_octet_37
    · have hf := ifn hf c_2
      refine lv_iload_n hx hb dX9_octet_9 rfl (lv_at hl 2 rfl) ?_
      refine lv_if_lt (tgt := 21) hx hb dX9_octet_10 (by decide) (fun c_3 => ?_) (fun c_3 => ?_)
      · have hf := ifp hf c_3
        refine lv_iconst (v := (-1 : Int32)) hx hb dX9_octet_21 (by decide) ?_
        refine lv_goto (tgt := 37) hx hb dX9_octet_22 (by decide) ?_
        obtain rfl := Option.some.inj hf
        exact W.iret hx hb hr (fun t ht hW => ⟨⟨(), rfl, by rw [ht]; exact hP, hD⟩, hS.F ht⟩) hS.2.2 dX9_octet_37
      · have hf := ifn hf c_3
        refine lv_iload_n hx hb dX9_octet_13 rfl (lv_at hl 2 rfl) ?_
        refine lv_aload_n hx hb dX9_octet_14 rfl (lv_at hl 0 rfl) ?_
        refine va_get (D := D) (ci := 8) (v := .int mb) (C := RX9) (T := TX9) (N := 20) hx hb hts iX9 hown hK hP 0 rfl rfl 1 (by decide) (hts (.fieldLink RX9 35 "SampleTrackerModel" "bytes" "I") (by decide +kernel)) (fun _ h9 => h9) rfl dX9_octet_15 ?_
        refine lv_icmp_lt (tgt := 25) hx hb dX9_octet_18 (by decide) (fun c_4 => ?_) (fun c_4 => ?_)
        · have hf := ifp hf c_4
          refine lv_aload_n hx hb dX9_octet_25 rfl (lv_at hl 0 rfl) ?_
          refine va_get (D := D) (ci := 8) (v := .ref mo) (C := RX9) (T := TX9) (N := 20) hx hb hts iX9 hown hK hP 0 rfl rfl 2 (by decide) (hts (.fieldLink RX9 40 "SampleTrackerModel" "bank" "[[B") (by decide +kernel)) (fun _ h9 => h9) rfl dX9_octet_26 ?_
          refine lv_iload_n hx hb dX9_octet_29 rfl (lv_at hl 1 rfl) ?_
          by_cases c_5 : p1 = 0
          · have hf := ifp hf c_5
            refine al_0 (hi := c_5) hx hb hK hP 1 4 rfl rfl dX9_octet_30 ?_
            refine lv_iload_n hx hb dX9_octet_31 rfl (lv_at hl 2 rfl) ?_
            obtain ⟨h_7, hf⟩ := ibk hf
            refine va_bald hx hb hK hP 2 0 rfl rfl (ib_in h_7) dX9_octet_32 ?_
            refine lv_sipush (v := (255 : Int32)) hx hb dX9_octet_33 (by decide) ?_
            refine lv_iand hx hb dX9_octet_36 ?_
            obtain rfl := Option.some.inj hf
            exact W.iret hx hb hr (fun t ht hW => ⟨⟨(), rfl, by rw [ht]; exact hP, hD⟩, hS.F ht⟩) hS.2.2 dX9_octet_37
          · have hf := ifn hf c_5
            by_cases c_6 : p1 = 1
            · have hf := ifp hf c_6
              refine al_1 (hi := c_6) hx hb hK hP 1 4 rfl rfl dX9_octet_30 ?_
              refine lv_iload_n hx hb dX9_octet_31 rfl (lv_at hl 2 rfl) ?_
              obtain ⟨h_8, hf⟩ := ibk hf
              refine va_bald hx hb hK hP 3 0 rfl rfl (ib_in h_8) dX9_octet_32 ?_
              refine lv_sipush (v := (255 : Int32)) hx hb dX9_octet_33 (by decide) ?_
              refine lv_iand hx hb dX9_octet_36 ?_
              obtain rfl := Option.some.inj hf
              exact W.iret hx hb hr (fun t ht hW => ⟨⟨(), rfl, by rw [ht]; exact hP, hD⟩, hS.F ht⟩) hS.2.2 dX9_octet_37
            · have hf := ifn hf c_6
              exact absurd hf (fun q => by cases q)
        · have hf := ifn hf c_4
          refine lv_iconst (v := (-1 : Int32)) hx hb dX9_octet_21 (by decide) ?_
          refine lv_goto (tgt := 37) hx hb dX9_octet_22 (by decide) ?_
          obtain rfl := Option.some.inj hf
          exact W.iret hx hb hr (fun t ht hW => ⟨⟨(), rfl, by rw [ht]; exact hP, hD⟩, hS.F ht⟩) hS.2.2 dX9_octet_37

def fX9_isHere (dn : Bool) (ms : Int32) (p1 : Int32) : Option (Bool) := (if (zb dn) = 0 then (if p1 ≤ 0 then some false else (if ms < p1 then some false else some true)) else some false)

set_option maxHeartbeats 4000000 in
set_option maxRecDepth 100000 in
theorem cX9_isHere_ok (l : Launch) (D : va_G) (y : Nat → ClassId) (am : Nat) (mo : Nat) (m1 : Nat) (m2 : Nat) (m_p : Nat) (m_w : Nat) (m_l : Nat) (m_v : Nat) (m_r : Nat) (m_q : Nat) (nb : Nat) (th : Int32) (mb : Int32) (us : Int32) (me : Int32) (rc : Int32) (dn : Bool) (lf : Int32) (mw : Int32) (mf : Int32) (ms : Int32) (mu : Int32) (ml : Int64) (mz : Int32) (c1 : Nat → Int32) (c2 : Nat → Int32) (mpa : Nat → Int32) (mwe : Nat → Int32) (mli : Nat → Int32) (mvo : Nat → Int64) (mro : Nat → Int32) (mpl : Nat → Int32) (p1 : Int32) (res : Bool) (hf : fX9_isHere dn ms p1 = some res) : CT l D y yX9_isHere wsX9_isHere ({ frames := 0, cells := 0, slots := 0, locals := 0 } : Room) [.ref am, .int p1] [(am, .inr (8, [.int th, .int mb, .ref mo, .int us, .int me, .int rc, .int (zb dn), .int lf, .int mw, .int mf, .ref m_p, .ref m_w, .ref m_l, .ref m_v, .int ms, .int mu, .long ml, .ref m_r, .int mz, .ref m_q])), (mo, .inl (y 4, 2, .inr (.inr (.inr (.inr (outr m1 m2)))))), (m1, .inl (y 0, nb, .inl c1)), (m2, .inl (y 0, nb, .inl c2)), (m_p, .inl (y 1, 121, .inl mpa)), (m_w, .inl (y 1, 121, .inl mwe)), (m_l, .inl (y 3, 121, .inl mli)), (m_v, .inl (y 2, 121, .inr (.inl mvo))), (m_r, .inl (y 0, 32, .inl mro)), (m_q, .inl (y 1, 260, .inl mpl))] (some (.int (zb res))) [(am, .inr (8, [.int th, .int mb, .ref mo, .int us, .int me, .int rc, .int (zb dn), .int lf, .int mw, .int mf, .ref m_p, .ref m_w, .ref m_l, .ref m_v, .int ms, .int mu, .long ml, .ref m_r, .int mz, .ref m_q])), (mo, .inl (y 4, 2, .inr (.inr (.inr (.inr (outr m1 m2)))))), (m1, .inl (y 0, nb, .inl c1)), (m2, .inl (y 0, nb, .inl c2)), (m_p, .inl (y 1, 121, .inl mpa)), (m_w, .inl (y 1, 121, .inl mwe)), (m_l, .inl (y 3, 121, .inl mli)), (m_v, .inl (y 2, 121, .inr (.inl mvo))), (m_r, .inl (y 0, 32, .inl mro)), (m_q, .inl (y 1, 260, .inl mpl))] := by
  intro sz
  refine Met.ofW (cc := cX9_isHere) (maxL := 2) (ret := (some .boolean)) (by decide) rfl ?_
  intro p e s m args below meth c s₁ B hml hv
  obtain ⟨rfl, hsz, hP, hK, hD0, hst, hno⟩ := hv
  have hx := B.exec
  have hb := B.bytes
  have hr := B.returns
  have hts := atoms_spec (ws := wsX9_isHere) B.pre
  have hown : s.vm.findClass RX9 = some m.cls := findClass_of_methodNamed B.named
  have hlocks := B.notSynchronized
  subst hsz
  have hD := hD0.self (sz := s.heap.size)
  generalize hAe : va_A [(am, .inr (8, [.int th, .int mb, .ref mo, .int us, .int me, .int rc, .int (zb dn), .int lf, .int mw, .int mf, .ref m_p, .ref m_w, .ref m_l, .ref m_v, .int ms, .int mu, .long ml, .ref m_r, .int mz, .ref m_q])), (mo, .inl (y 4, 2, .inr (.inr (.inr (.inr (outr m1 m2)))))), (m1, .inl (y 0, nb, .inl c1)), (m2, .inl (y 0, nb, .inl c2)), (m_p, .inl (y 1, 121, .inl mpa)), (m_w, .inl (y 1, 121, .inl mwe)), (m_l, .inl (y 3, 121, .inl mli)), (m_v, .inl (y 2, 121, .inr (.inl mvo))), (m_r, .inl (y 0, 32, .inl mro)), (m_q, .inl (y 1, 260, .inl mpl))] s.heap.size = A at hD hst ⊢
  have hA : ∀ q : Nat, s.heap.size ≤ q → A q := fun q h => by rw [← hAe]; exact Or.inr h
  have hS : va_S A s.heap s.heap [] := va_S.rf
  have E : Ev D y A s := ⟨hK, hst, hno, hA⟩
  have hfix : CallFix p m c cX9_isHere 2 s _ wsX9_isHere RX9 := ⟨hx, hb, hml, hown, hts⟩
  have hP : va_P D vwCl [(am, .inr (8, [.int th, .int mb, .ref mo, .int us, .int me, .int rc, .int (zb dn), .int lf, .int mw, .int mf, .ref m_p, .ref m_w, .ref m_l, .ref m_v, .int ms, .int mu, .long ml, .ref m_r, .int mz, .ref m_q])), (mo, .inl (y 4, 2, .inr (.inr (.inr (.inr (outr m1 m2)))))), (m1, .inl (y 0, nb, .inl c1)), (m2, .inl (y 0, nb, .inl c2)), (m_p, .inl (y 1, 121, .inl mpa)), (m_w, .inl (y 1, 121, .inl mwe)), (m_l, .inl (y 3, 121, .inl mli)), (m_v, .inl (y 2, 121, .inr (.inl mvo))), (m_r, .inl (y 0, 32, .inl mro)), (m_q, .inl (y 1, 260, .inl mpl))] s.heap := hP
  have iX9 : ∀ w ∈ wsX90, w ∈ wsX9_isHere := by decide +kernel
  have hl := lv_entry ([.ref am, .int p1]) (n := 2) (Nat.le_of_ble_eq_true rfl)
  rw [lg_entry_eq]
  generalize (lg_sl ([.ref am, .int p1]) ++ List.replicate (2 - (lg_sl ([.ref am, .int p1])).length) Slot.unset).toArray = ls at hl ⊢
  have hl : lv_has ls 2 [(0, .ref am), (1, .int p1)] := hl
  unfold fX9_isHere at hf
  refine lv_aload_n hx hb dX9_isHere_0 rfl (lv_at hl 0 rfl) ?_
  refine va_get (D := D) (ci := 8) (v := .int (zb dn)) (C := RX9) (T := TX9) (N := 20) hx hb hts iX9 hown hK hP 0 rfl rfl 6 (by decide) (hts (.fieldLink RX9 77 "SampleTrackerModel" "isDown" "Z") (by decide +kernel)) (fun _ h9 => h9) rfl dX9_isHere_1 ?_
  refine lv_if_ne (tgt := 23) hx hb dX9_isHere_4 (by decide) (fun c_1 => ?_) (fun c_1 => ?_)
  · have hf := ifn hf c_1
    refine lv_iconst (v := (0 : Int32)) hx hb dX9_isHere_23 (by decide) ?_
    obtain rfl := Option.some.inj hf
    exact W.zret (ty := .boolean) hx hb hr rfl (fun t ht hW => ⟨⟨(), rfl, by rw [ht]; exact hP, hD⟩, hS.F ht⟩) hS.2.2 dX9_isHere_24
  · have hf := ifp hf c_1
    refine lv_iload_n hx hb dX9_isHere_7 rfl (lv_at hl 1 rfl) ?_
    refine lv_if_le (tgt := 23) hx hb dX9_isHere_8 (by decide) (fun c_2 => ?_) (fun c_2 => ?_)
    · have hf := ifp hf c_2
      refine lv_iconst (v := (0 : Int32)) hx hb dX9_isHere_23 (by decide) ?_
      obtain rfl := Option.some.inj hf
      exact W.zret (ty := .boolean) hx hb hr rfl (fun t ht hW => ⟨⟨(), rfl, by rw [ht]; exact hP, hD⟩, hS.F ht⟩) hS.2.2 dX9_isHere_24
    · have hf := ifn hf c_2
      refine lv_iload_n hx hb dX9_isHere_11 rfl (lv_at hl 1 rfl) ?_
      refine lv_aload_n hx hb dX9_isHere_12 rfl (lv_at hl 0 rfl) ?_
      refine va_get (D := D) (ci := 8) (v := .int ms) (C := RX9) (T := TX9) (N := 20) hx hb hts iX9 hown hK hP 0 rfl rfl 14 (by decide) (hts (.fieldLink RX9 115 "SampleTrackerModel" "samples" "I") (by decide +kernel)) (fun _ h9 => h9) rfl dX9_isHere_13 ?_
      refine lv_icmp_gt (tgt := 23) hx hb dX9_isHere_16 (by decide) (fun c_3 => ?_) (fun c_3 => ?_)
      · have hf := ifp hf c_3
        refine lv_iconst (v := (0 : Int32)) hx hb dX9_isHere_23 (by decide) ?_
        obtain rfl := Option.some.inj hf
        exact W.zret (ty := .boolean) hx hb hr rfl (fun t ht hW => ⟨⟨(), rfl, by rw [ht]; exact hP, hD⟩, hS.F ht⟩) hS.2.2 dX9_isHere_24
      · have hf := ifn hf c_3
        refine lv_iconst (v := (1 : Int32)) hx hb dX9_isHere_19 (by decide) ?_
        refine lv_goto (tgt := 24) hx hb dX9_isHere_20 (by decide) ?_
        obtain rfl := Option.some.inj hf
        exact W.zret (ty := .boolean) hx hb hr rfl (fun t ht hW => ⟨⟨(), rfl, by rw [ht]; exact hP, hD⟩, hS.F ht⟩) hS.2.2 dX9_isHere_24

def fX9_sample_118 (mpa : Nat → Int32) (p2 : Int32) : Nat → Int32 → Int32 → Option (Int32)
  | 0, _, _ => none
  | n118 + 1, v118_0, v118_1 => (if (ib v118_1 121) = true then (if (mpa v118_1.toNatClampNeg) = 0 then (if p2 = (3 : Int32) then some v118_0 else some v118_1) else fX9_sample_118 mpa p2 n118 (v118_0 + (1 : Int32)) (mpa v118_1.toNatClampNeg)) else none)

def fX9_sample_82 (ms : Int32) (mpa : Nat → Int32) (p1 : Int32) : Nat → Int32 → Int32 → Int32 → Option (Int32)
  | 0, _, _, _ => none
  | n82 + 1, v82_0, v82_1, v82_2 => (if ms < v82_2 then some v82_0 else (if (ib v82_2 121) = true then (if (mpa v82_2.toNatClampNeg) = p1 then fX9_sample_82 ms mpa p1 n82 (v82_0 + (1 : Int32)) v82_1 (v82_2 + (1 : Int32)) else fX9_sample_82 ms mpa p1 n82 (v82_0 + (0 : Int32)) v82_1 (v82_2 + (1 : Int32))) else none))

def fX9_sample (dn : Bool) (ms : Int32) (mpa : Nat → Int32) (mwe : Nat → Int32) (mli : Nat → Int32) (p1 : Int32) (p2 : Int32) : Option (Int32) := ((fX9_isHere dn ms p1).bind fun r_8 => (if (zb r_8) = 0 then some (-1 : Int32) else (if p2 = (0 : Int32) then (if (ib p1 121) = true then some (mpa p1.toNatClampNeg) else none) else (if p2 = (1 : Int32) then (if (ib p1 121) = true then (if (mli p1.toNatClampNeg) = 0 then some (-1 : Int32) else some (mwe p1.toNatClampNeg)) else none) else (if p2 = (2 : Int32) then fX9_sample_82 ms mpa p1 FU (0 : Int32) p1 (1 : Int32) else (if p2 = (3 : Int32) then fX9_sample_118 mpa p2 FU (0 : Int32) p1 else (if p2 = (4 : Int32) then fX9_sample_118 mpa p2 FU (0 : Int32) p1 else some (-1 : Int32))))))))

set_option maxHeartbeats 4000000 in
set_option maxRecDepth 100000 in
theorem cX9_sample_ok (l : Launch) (D : va_G) (y : Nat → ClassId) (am : Nat) (mo : Nat) (m1 : Nat) (m2 : Nat) (m_p : Nat) (m_w : Nat) (m_l : Nat) (m_v : Nat) (m_r : Nat) (m_q : Nat) (nb : Nat) (th : Int32) (mb : Int32) (us : Int32) (me : Int32) (rc : Int32) (dn : Bool) (lf : Int32) (mw : Int32) (mf : Int32) (ms : Int32) (mu : Int32) (ml : Int64) (mz : Int32) (c1 : Nat → Int32) (c2 : Nat → Int32) (mpa : Nat → Int32) (mwe : Nat → Int32) (mli : Nat → Int32) (mvo : Nat → Int64) (mro : Nat → Int32) (mpl : Nat → Int32) (p1 : Int32) (p2 : Int32) (res : Int32) (hf : fX9_sample dn ms mpa mwe mli p1 p2 = some res) : CT l D y yX9_sample wsX9_sample ({ frames := 1, cells := 0, slots := 0, locals := 21 } : Room) [.ref am, .int p1, .int p2] [(am, .inr (8, [.int th, .int mb, .ref mo, .int us, .int me, .int rc, .int (zb dn), .int lf, .int mw, .int mf, .ref m_p, .ref m_w, .ref m_l, .ref m_v, .int ms, .int mu, .long ml, .ref m_r, .int mz, .ref m_q])), (mo, .inl (y 4, 2, .inr (.inr (.inr (.inr (outr m1 m2)))))), (m1, .inl (y 0, nb, .inl c1)), (m2, .inl (y 0, nb, .inl c2)), (m_p, .inl (y 1, 121, .inl mpa)), (m_w, .inl (y 1, 121, .inl mwe)), (m_l, .inl (y 3, 121, .inl mli)), (m_v, .inl (y 2, 121, .inr (.inl mvo))), (m_r, .inl (y 0, 32, .inl mro)), (m_q, .inl (y 1, 260, .inl mpl))] (some (.int res)) [(am, .inr (8, [.int th, .int mb, .ref mo, .int us, .int me, .int rc, .int (zb dn), .int lf, .int mw, .int mf, .ref m_p, .ref m_w, .ref m_l, .ref m_v, .int ms, .int mu, .long ml, .ref m_r, .int mz, .ref m_q])), (mo, .inl (y 4, 2, .inr (.inr (.inr (.inr (outr m1 m2)))))), (m1, .inl (y 0, nb, .inl c1)), (m2, .inl (y 0, nb, .inl c2)), (m_p, .inl (y 1, 121, .inl mpa)), (m_w, .inl (y 1, 121, .inl mwe)), (m_l, .inl (y 3, 121, .inl mli)), (m_v, .inl (y 2, 121, .inr (.inl mvo))), (m_r, .inl (y 0, 32, .inl mro)), (m_q, .inl (y 1, 260, .inl mpl))] := by
  intro sz
  refine Met.ofW (cc := cX9_sample) (maxL := 6) (ret := (some .int)) (by decide) rfl ?_
  intro p e s m args below meth c s₁ B hml hv
  obtain ⟨rfl, hsz, hP, hK, hD0, hst, hno⟩ := hv
  have hx := B.exec
  have hb := B.bytes
  have hr := B.returns
  have hts := atoms_spec (ws := wsX9_sample) B.pre
  have hown : s.vm.findClass RX9 = some m.cls := findClass_of_methodNamed B.named
  have hlocks := B.notSynchronized
  subst hsz
  have hD := hD0.self (sz := s.heap.size)
  generalize hAe : va_A [(am, .inr (8, [.int th, .int mb, .ref mo, .int us, .int me, .int rc, .int (zb dn), .int lf, .int mw, .int mf, .ref m_p, .ref m_w, .ref m_l, .ref m_v, .int ms, .int mu, .long ml, .ref m_r, .int mz, .ref m_q])), (mo, .inl (y 4, 2, .inr (.inr (.inr (.inr (outr m1 m2)))))), (m1, .inl (y 0, nb, .inl c1)), (m2, .inl (y 0, nb, .inl c2)), (m_p, .inl (y 1, 121, .inl mpa)), (m_w, .inl (y 1, 121, .inl mwe)), (m_l, .inl (y 3, 121, .inl mli)), (m_v, .inl (y 2, 121, .inr (.inl mvo))), (m_r, .inl (y 0, 32, .inl mro)), (m_q, .inl (y 1, 260, .inl mpl))] s.heap.size = A at hD hst ⊢
  have hA : ∀ q : Nat, s.heap.size ≤ q → A q := fun q h => by rw [← hAe]; exact Or.inr h
  have hS : va_S A s.heap s.heap [] := va_S.rf
  have E : Ev D y A s := ⟨hK, hst, hno, hA⟩
  have hfix : CallFix p m c cX9_sample 6 s _ wsX9_sample RX9 := ⟨hx, hb, hml, hown, hts⟩
  have hP : va_P D vwCl [(am, .inr (8, [.int th, .int mb, .ref mo, .int us, .int me, .int rc, .int (zb dn), .int lf, .int mw, .int mf, .ref m_p, .ref m_w, .ref m_l, .ref m_v, .int ms, .int mu, .long ml, .ref m_r, .int mz, .ref m_q])), (mo, .inl (y 4, 2, .inr (.inr (.inr (.inr (outr m1 m2)))))), (m1, .inl (y 0, nb, .inl c1)), (m2, .inl (y 0, nb, .inl c2)), (m_p, .inl (y 1, 121, .inl mpa)), (m_w, .inl (y 1, 121, .inl mwe)), (m_l, .inl (y 3, 121, .inl mli)), (m_v, .inl (y 2, 121, .inr (.inl mvo))), (m_r, .inl (y 0, 32, .inl mro)), (m_q, .inl (y 1, 260, .inl mpl))] s.heap := hP
  have iX9 : ∀ w ∈ wsX90, w ∈ wsX9_sample := by decide +kernel
  have hl := lv_entry ([.ref am, .int p1, .int p2]) (n := 6) (Nat.le_of_ble_eq_true rfl)
  rw [lg_entry_eq]
  generalize (lg_sl ([.ref am, .int p1, .int p2]) ++ List.replicate (6 - (lg_sl ([.ref am, .int p1, .int p2])).length) Slot.unset).toArray = ls at hl ⊢
  have hl : lv_has ls 6 [(0, .ref am), (1, .int p1), (2, .int p2)] := hl
  have hL118 : ∀ (n118 : Nat) (v118_0 : Int32) (v118_1 : Int32) (H : Heap) (locs : List Loc) (ls : Array Slot), fX9_sample_118 mpa p2 n118 v118_0 v118_1 = some res → va_P D vwCl [(am, .inr (8, [.int th, .int mb, .ref mo, .int us, .int me, .int rc, .int (zb dn), .int lf, .int mw, .int mf, .ref m_p, .ref m_w, .ref m_l, .ref m_v, .int ms, .int mu, .long ml, .ref m_r, .int mz, .ref m_q])), (mo, .inl (y 4, 2, .inr (.inr (.inr (.inr (outr m1 m2)))))), (m1, .inl (y 0, nb, .inl c1)), (m2, .inl (y 0, nb, .inl c2)), (m_p, .inl (y 1, 121, .inl mpa)), (m_w, .inl (y 1, 121, .inl mwe)), (m_l, .inl (y 3, 121, .inl mli)), (m_v, .inl (y 2, 121, .inr (.inl mvo))), (m_r, .inl (y 0, 32, .inl mro)), (m_q, .inl (y 1, 260, .inl mpl))] H → va_D A [(am, .inr (8, [.int th, .int mb, .ref mo, .int us, .int me, .int rc, .int (zb dn), .int lf, .int mw, .int mf, .ref m_p, .ref m_w, .ref m_l, .ref m_v, .int ms, .int mu, .long ml, .ref m_r, .int mz, .ref m_q])), (mo, .inl (y 4, 2, .inr (.inr (.inr (.inr (outr m1 m2)))))), (m1, .inl (y 0, nb, .inl c1)), (m2, .inl (y 0, nb, .inl c2)), (m_p, .inl (y 1, 121, .inl mpa)), (m_w, .inl (y 1, 121, .inl mwe)), (m_l, .inl (y 3, 121, .inl mli)), (m_v, .inl (y 2, 121, .inr (.inl mvo))), (m_r, .inl (y 0, 32, .inl mro)), (m_q, .inl (y 1, 260, .inl mpl))] → va_S A s.heap H locs → lv_has ls 6 [(0, .ref am), (1, .int p1), (2, .int p2), (3, .int v118_0), (4, .int v118_1)] → W p l e (headSpec wsX9_sample ({ frames := 1, cells := 0, slots := 0, locals := 21 } : Room)).room s m ([.ref am, .int p1, .int p2] : List Value).toArray below meth c H locs 0 0 (MQ below (Po D (fun _ : Unit => some (.int res)) (fun _ => [(am, .inr (8, [.int th, .int mb, .ref mo, .int us, .int me, .int rc, .int (zb dn), .int lf, .int mw, .int mf, .ref m_p, .ref m_w, .ref m_l, .ref m_v, .int ms, .int mu, .long ml, .ref m_r, .int mz, .ref m_q])), (mo, .inl (y 4, 2, .inr (.inr (.inr (.inr (outr m1 m2)))))), (m1, .inl (y 0, nb, .inl c1)), (m2, .inl (y 0, nb, .inl c2)), (m_p, .inl (y 1, 121, .inl mpa)), (m_w, .inl (y 1, 121, .inl mwe)), (m_l, .inl (y 3, 121, .inl mli)), (m_v, .inl (y 2, 121, .inr (.inl mvo))), (m_r, .inl (y 0, 32, .inl mro)), (m_q, .inl (y 1, 260, .inl mpl))]) A) ([.ref am, .int p1, .int p2] : List Value).toArray s 0 0 A) (F0 m 118 ls []) := by
    intro n118
    induction n118 with
    | zero =>
      intro v118_0 v118_1 H locs ls hf
      exact absurd (show (none : Option (Int32)) = some res from hf) (fun q => by cases q)
    | succ n118 ih118 =>
      intro v118_0 v118_1 H locs ls hf hP hD hS hl
      unfold fX9_sample_118 at hf
      refine lv_aload_n hx hb dX9_sample_118 rfl (lv_at hl 0 rfl) ?_
      refine va_get (D := D) (ci := 8) (v := .ref m_p) (C := RX9) (T := TX9) (N := 20) hx hb hts iX9 hown hK hP 0 rfl rfl 10 (by decide) (hts (.fieldLink RX9 13 "SampleTrackerModel" "parent" "[I") (by decide +kernel)) (fun _ h9 => h9) rfl dX9_sample_119 ?_
      refine lv_iload hx hb dX9_sample_122 (lv_at hl 4 rfl) ?_
      obtain ⟨h_1, hf⟩ := ibk hf
      refine va_iald hx hb hK hP 4 1 rfl rfl (ib_in h_1) dX9_sample_124 ?_
      refine lv_if_eq (tgt := 143) hx hb dX9_sample_125 (by decide) (fun c_2 => ?_) (fun c_2 => ?_)
      · have hf := ifp hf c_2
        refine lv_iload_n hx hb dX9_sample_143 rfl (lv_at hl 2 rfl) ?_
        refine lv_iconst (v := (3 : Int32)) hx hb dX9_sample_144 (by decide) ?_
        refine lv_icmp_ne (tgt := 152) hx hb dX9_sample_145 (by decide) (fun c_3 => ?_) (fun c_3 => ?_)
        · have hf := ifn hf c_3
          refine lv_iload hx hb dX9_sample_152 (lv_at hl 4 rfl) ?_
          obtain rfl := Option.some.inj hf
          exact W.iret hx hb hr (fun t ht hW => ⟨⟨(), rfl, by rw [ht]; exact hP, hD⟩, hS.F ht⟩) hS.2.2 dX9_sample_154
        · have hf := ifp hf c_3
          refine lv_iload_n hx hb dX9_sample_148 rfl (lv_at hl 3 rfl) ?_
          refine lv_goto (tgt := 154) hx hb dX9_sample_149 (by decide) ?_
          obtain rfl := Option.some.inj hf
          exact W.iret hx hb hr (fun t ht hW => ⟨⟨(), rfl, by rw [ht]; exact hP, hD⟩, hS.F ht⟩) hS.2.2 dX9_sample_154
      · have hf := ifn hf c_2
        refine lv_aload_n hx hb dX9_sample_128 rfl (lv_at hl 0 rfl) ?_
        refine va_get (D := D) (ci := 8) (v := .ref m_p) (C := RX9) (T := TX9) (N := 20) hx hb hts iX9 hown hK hP 0 rfl rfl 10 (by decide) (hts (.fieldLink RX9 13 "SampleTrackerModel" "parent" "[I") (by decide +kernel)) (fun _ h9 => h9) rfl dX9_sample_129 ?_
        refine lv_iload hx hb dX9_sample_132 (lv_at hl 4 rfl) ?_
        refine va_iald hx hb hK hP 4 1 rfl rfl (ib_in h_1) dX9_sample_134 ?_
        refine lv_istore (lv' := [(4, .int (mpa v118_1.toNatClampNeg)), (0, .ref am), (1, .int p1), (2, .int p2), (3, .int v118_0)]) hx hb dX9_sample_135 hl (by decide) rfl (fun ls hl => ?_)
        refine lv_iinc (v := (v118_0 + (1 : Int32))) (lv' := [(3, .int (v118_0 + (1 : Int32))), (4, .int (mpa v118_1.toNatClampNeg)), (0, .ref am), (1, .int p1), (2, .int p2)]) hx hb dX9_sample_137 hl (k := 4) rfl rfl (by decide) rfl (fun ls hl => ?_)
        refine lv_goto (tgt := 118) hx hb dX9_sample_140 (by decide) ?_
        exact ih118 (v118_0 + (1 : Int32)) (mpa v118_1.toNatClampNeg) _ _ _ hf hP hD hS (lv_sub hl [2, 3, 4, 0, 1] rfl)
  have hL82 : ∀ (n82 : Nat) (v82_0 : Int32) (v82_1 : Int32) (v82_2 : Int32) (H : Heap) (locs : List Loc) (ls : Array Slot), fX9_sample_82 ms mpa p1 n82 v82_0 v82_1 v82_2 = some res → va_P D vwCl [(am, .inr (8, [.int th, .int mb, .ref mo, .int us, .int me, .int rc, .int (zb dn), .int lf, .int mw, .int mf, .ref m_p, .ref m_w, .ref m_l, .ref m_v, .int ms, .int mu, .long ml, .ref m_r, .int mz, .ref m_q])), (mo, .inl (y 4, 2, .inr (.inr (.inr (.inr (outr m1 m2)))))), (m1, .inl (y 0, nb, .inl c1)), (m2, .inl (y 0, nb, .inl c2)), (m_p, .inl (y 1, 121, .inl mpa)), (m_w, .inl (y 1, 121, .inl mwe)), (m_l, .inl (y 3, 121, .inl mli)), (m_v, .inl (y 2, 121, .inr (.inl mvo))), (m_r, .inl (y 0, 32, .inl mro)), (m_q, .inl (y 1, 260, .inl mpl))] H → va_D A [(am, .inr (8, [.int th, .int mb, .ref mo, .int us, .int me, .int rc, .int (zb dn), .int lf, .int mw, .int mf, .ref m_p, .ref m_w, .ref m_l, .ref m_v, .int ms, .int mu, .long ml, .ref m_r, .int mz, .ref m_q])), (mo, .inl (y 4, 2, .inr (.inr (.inr (.inr (outr m1 m2)))))), (m1, .inl (y 0, nb, .inl c1)), (m2, .inl (y 0, nb, .inl c2)), (m_p, .inl (y 1, 121, .inl mpa)), (m_w, .inl (y 1, 121, .inl mwe)), (m_l, .inl (y 3, 121, .inl mli)), (m_v, .inl (y 2, 121, .inr (.inl mvo))), (m_r, .inl (y 0, 32, .inl mro)), (m_q, .inl (y 1, 260, .inl mpl))] → va_S A s.heap H locs → lv_has ls 6 [(0, .ref am), (1, .int p1), (2, .int p2), (3, .int v82_0), (4, .int v82_1), (5, .int v82_2)] → W p l e (headSpec wsX9_sample ({ frames := 1, cells := 0, slots := 0, locals := 21 } : Room)).room s m ([.ref am, .int p1, .int p2] : List Value).toArray below meth c H locs 0 0 (MQ below (Po D (fun _ : Unit => some (.int res)) (fun _ => [(am, .inr (8, [.int th, .int mb, .ref mo, .int us, .int me, .int rc, .int (zb dn), .int lf, .int mw, .int mf, .ref m_p, .ref m_w, .ref m_l, .ref m_v, .int ms, .int mu, .long ml, .ref m_r, .int mz, .ref m_q])), (mo, .inl (y 4, 2, .inr (.inr (.inr (.inr (outr m1 m2)))))), (m1, .inl (y 0, nb, .inl c1)), (m2, .inl (y 0, nb, .inl c2)), (m_p, .inl (y 1, 121, .inl mpa)), (m_w, .inl (y 1, 121, .inl mwe)), (m_l, .inl (y 3, 121, .inl mli)), (m_v, .inl (y 2, 121, .inr (.inl mvo))), (m_r, .inl (y 0, 32, .inl mro)), (m_q, .inl (y 1, 260, .inl mpl))]) A) ([.ref am, .int p1, .int p2] : List Value).toArray s 0 0 A) (F0 m 82 ls []) := by
    intro n82
    induction n82 with
    | zero =>
      intro v82_0 v82_1 v82_2 H locs ls hf
      exact absurd (show (none : Option (Int32)) = some res from hf) (fun q => by cases q)
    | succ n82 ih82 =>
      intro v82_0 v82_1 v82_2 H locs ls hf hP hD hS hl
      unfold fX9_sample_82 at hf
      refine lv_iload hx hb dX9_sample_82 (lv_at hl 5 rfl) ?_
      refine lv_aload_n hx hb dX9_sample_84 rfl (lv_at hl 0 rfl) ?_
      refine va_get (D := D) (ci := 8) (v := .int ms) (C := RX9) (T := TX9) (N := 20) hx hb hts iX9 hown hK hP 0 rfl rfl 14 (by decide) (hts (.fieldLink RX9 115 "SampleTrackerModel" "samples" "I") (by decide +kernel)) (fun _ h9 => h9) rfl dX9_sample_85 ?_
      refine lv_icmp_gt (tgt := 116) hx hb dX9_sample_88 (by decide) (fun c_5 => ?_) (fun c_5 => ?_)
      · have hf := ifp hf c_5
        refine lv_iload_n hx hb dX9_sample_116 rfl (lv_at hl 3 rfl) ?_
        obtain rfl := Option.some.inj hf
        exact W.iret hx hb hr (fun t ht hW => ⟨⟨(), rfl, by rw [ht]; exact hP, hD⟩, hS.F ht⟩) hS.2.2 dX9_sample_117
      · have hf := ifn hf c_5
        refine lv_iload_n hx hb dX9_sample_91 rfl (lv_at hl 3 rfl) ?_
        refine lv_aload_n hx hb dX9_sample_92 rfl (lv_at hl 0 rfl) ?_
        refine va_get (D := D) (ci := 8) (v := .ref m_p) (C := RX9) (T := TX9) (N := 20) hx hb hts iX9 hown hK hP 0 rfl rfl 10 (by decide) (hts (.fieldLink RX9 13 "SampleTrackerModel" "parent" "[I") (by decide +kernel)) (fun _ h9 => h9) rfl dX9_sample_93 ?_
        refine lv_iload hx hb dX9_sample_96 (lv_at hl 5 rfl) ?_
        obtain ⟨h_6, hf⟩ := ibk hf
        refine va_iald hx hb hK hP 4 1 rfl rfl (ib_in h_6) dX9_sample_98 ?_
        refine lv_iload_n hx hb dX9_sample_99 rfl (lv_at hl 1 rfl) ?_
        refine lv_icmp_ne (tgt := 107) hx hb dX9_sample_100 (by decide) (fun c_7 => ?_) (fun c_7 => ?_)
        · have hf := ifn hf c_7
          refine lv_iconst (v := (0 : Int32)) hx hb dX9_sample_107 (by decide) ?_
          refine lv_iadd hx hb dX9_sample_108 ?_
          refine lv_istore_n (lv' := [(3, .int (v82_0 + (0 : Int32))), (0, .ref am), (1, .int p1), (2, .int p2), (4, .int v82_1), (5, .int v82_2)]) hx hb dX9_sample_109 rfl hl (by decide) rfl (fun ls hl => ?_)
          refine lv_iinc (v := (v82_2 + (1 : Int32))) (lv' := [(5, .int (v82_2 + (1 : Int32))), (3, .int (v82_0 + (0 : Int32))), (0, .ref am), (1, .int p1), (2, .int p2), (4, .int v82_1)]) hx hb dX9_sample_110 hl (k := 5) rfl rfl (by decide) rfl (fun ls hl => ?_)
          refine lv_goto (tgt := 82) hx hb dX9_sample_113 (by decide) ?_
          exact ih82 (v82_0 + (0 : Int32)) v82_1 (v82_2 + (1 : Int32)) _ _ _ hf hP hD hS (lv_sub hl [2, 3, 4, 1, 5, 0] rfl)
        · have hf := ifp hf c_7
          refine lv_iconst (v := (1 : Int32)) hx hb dX9_sample_103 (by decide) ?_
          refine lv_goto (tgt := 108) hx hb dX9_sample_104 (by decide) ?_
          refine lv_iadd hx hb dX9_sample_108 ?_
          refine lv_istore_n (lv' := [(3, .int (v82_0 + (1 : Int32))), (0, .ref am), (1, .int p1), (2, .int p2), (4, .int v82_1), (5, .int v82_2)]) hx hb dX9_sample_109 rfl hl (by decide) rfl (fun ls hl => ?_)
          refine lv_iinc (v := (v82_2 + (1 : Int32))) (lv' := [(5, .int (v82_2 + (1 : Int32))), (3, .int (v82_0 + (1 : Int32))), (0, .ref am), (1, .int p1), (2, .int p2), (4, .int v82_1)]) hx hb dX9_sample_110 hl (k := 5) rfl rfl (by decide) rfl (fun ls hl => ?_)
          refine lv_goto (tgt := 82) hx hb dX9_sample_113 (by decide) ?_
          exact ih82 (v82_0 + (1 : Int32)) v82_1 (v82_2 + (1 : Int32)) _ _ _ hf hP hD hS (lv_sub hl [2, 3, 4, 1, 5, 0] rfl)
  unfold fX9_sample at hf
  refine lv_aload_n hx hb dX9_sample_0 rfl (lv_at hl 0 rfl) ?_
  refine lv_iload_n hx hb dX9_sample_1 rfl (lv_at hl 1 rfl) ?_
  obtain ⟨r_8, hc_9, hf⟩ := obd hf
  refine ct_V (As := [.int p1]) (rest := []) (wr := []) (wn := [(am, .inr (8, [.int th, .int mb, .ref mo, .int us, .int me, .int rc, .int (zb dn), .int lf, .int mw, .int mf, .ref m_p, .ref m_w, .ref m_l, .ref m_v, .int ms, .int mu, .long ml, .ref m_r, .int mz, .ref m_q])), (mo, .inl (y 4, 2, .inr (.inr (.inr (.inr (outr m1 m2)))))), (m1, .inl (y 0, nb, .inl c1)), (m2, .inl (y 0, nb, .inl c2)), (m_p, .inl (y 1, 121, .inl mpa)), (m_w, .inl (y 1, 121, .inl mwe)), (m_l, .inl (y 3, 121, .inl mli)), (m_v, .inl (y 2, 121, .inr (.inl mvo))), (m_r, .inl (y 0, 32, .inl mro)), (m_q, .inl (y 1, 260, .inl mpl))]) hfix (cX9_isHere_ok l D y am mo m1 m2 m_p m_w m_l m_v m_r m_q nb th mb us me rc dn lf mw mf ms mu ml mz c1 c2 mpa mwe mli mvo mro mpl p1 _ hc_9) (cwV 1 hts gX9_sample_X9_isHere rfl rfl rfl (by decide +kernel) ⟨Nat.le_of_ble_eq_true rfl, Nat.le_of_ble_eq_true rfl⟩) E hP hD hS [0, 1, 2, 3, 4, 5, 6, 7, 8, 9] [] [0, 1, 2, 3, 4, 5, 6, 7, 8, 9] rfl rfl rfl rfl (by decide) rfl rfl 0 8 rfl rfl rfl hl.1 rfl (Nat.le_of_ble_eq_true rfl) dX9_sample_2 ⟨Nat.zero_le _, Nat.zero_le _⟩ (fun H locs hP hD hS => ?_)
  refine W.eq (g2 := F0 m 5 ls [.int (zb r_8)]) rfl ?_
  refine lv_if_ne (tgt := 10) hx hb dX9_sample_5 (by decide) (fun c_10 => ?_) (fun c_10 => ?_)
  · have hf := ifn hf c_10
    refine lv_iconst (v := (0 : Int32)) hx hb dX9_sample_10 (by decide) ?_
    refine lv_istore_n (lv' := [(3, .int (0 : Int32)), (0, .ref am), (1, .int p1), (2, .int p2)]) hx hb dX9_sample_11 rfl hl (by decide) rfl (fun ls hl => ?_)
    refine lv_iload_n hx hb dX9_sample_12 rfl (lv_at hl 2 rfl) ?_
    refine lv_istore (lv' := [(4, .int p1), (3, .int (0 : Int32)), (0, .ref am), (1, .int p1), (2, .int p2)]) hx hb dX9_sample_13 hl (by decide) rfl (fun ls hl => ?_)
    refine lv_iload_n hx hb dX9_sample_15 rfl (lv_at hl 4 rfl) ?_
    by_cases c_11 : p2 = (0 : Int32)
    · have hf := ifp hf c_11
      refine lv_tableIn (off := 36) (tgt := 52) hx hb dX9_sample_16 (by rw [c_11]; decide) (by rw [c_11]; decide) (by rw [c_11]; decide) (by decide) ?_
      refine lv_aload_n hx hb dX9_sample_52 rfl (lv_at hl 2 rfl) ?_
      refine va_get (D := D) (ci := 8) (v := .ref m_p) (C := RX9) (T := TX9) (N := 20) hx hb hts iX9 hown hK hP 0 rfl rfl 10 (by decide) (hts (.fieldLink RX9 13 "SampleTrackerModel" "parent" "[I") (by decide +kernel)) (fun _ h9 => h9) rfl dX9_sample_53 ?_
      refine lv_iload_n hx hb dX9_sample_56 rfl (lv_at hl 3 rfl) ?_
      obtain ⟨h_12, hf⟩ := ibk hf
      refine va_iald hx hb hK hP 4 1 rfl rfl (ib_in h_12) dX9_sample_57 ?_
      obtain rfl := Option.some.inj hf
      exact W.iret hx hb hr (fun t ht hW => ⟨⟨(), rfl, by rw [ht]; exact hP, hD⟩, hS.F ht⟩) hS.2.2 dX9_sample_58
    · have hf := ifn hf c_11
      by_cases c_13 : p2 = (1 : Int32)
      · have hf := ifp hf c_13
        refine lv_tableIn (off := 43) (tgt := 59) hx hb dX9_sample_16 (by rw [c_13]; decide) (by rw [c_13]; decide) (by rw [c_13]; decide) (by decide) ?_
        refine lv_aload_n hx hb dX9_sample_59 rfl (lv_at hl 2 rfl) ?_
        refine va_get (D := D) (ci := 8) (v := .ref m_l) (C := RX9) (T := TX9) (N := 20) hx hb hts iX9 hown hK hP 0 rfl rfl 12 (by decide) (hts (.fieldLink RX9 20 "SampleTrackerModel" "live" "[Z") (by decide +kernel)) (fun _ h9 => h9) rfl dX9_sample_60 ?_
        refine lv_iload_n hx hb dX9_sample_63 rfl (lv_at hl 3 rfl) ?_
        obtain ⟨h_14, hf⟩ := ibk hf
        refine va_zald hx hb hK hP 6 3 rfl rfl (ib_in h_14) dX9_sample_64 ?_
        refine lv_if_eq (tgt := 77) hx hb dX9_sample_65 (by decide) (fun c_15 => ?_) (fun c_15 => ?_)
        · have hf := ifp hf c_15
          refine lv_iconst (v := (-1 : Int32)) hx hb dX9_sample_77 (by decide) ?_
          obtain rfl := Option.some.inj hf
          exact W.iret hx hb hr (fun t ht hW => ⟨⟨(), rfl, by rw [ht]; exact hP, hD⟩, hS.F ht⟩) hS.2.2 dX9_sample_78
        · have hf := ifn hf c_15
          refine lv_aload_n hx hb dX9_sample_68 rfl (lv_at hl 2 rfl) ?_
          refine va_get (D := D) (ci := 8) (v := .ref m_w) (C := RX9) (T := TX9) (N := 20) hx hb hts iX9 hown hK hP 0 rfl rfl 11 (by decide) (hts (.fieldLink RX9 17 "SampleTrackerModel" "well" "[I") (by decide +kernel)) (fun _ h9 => h9) rfl dX9_sample_69 ?_
          refine lv_iload_n hx hb dX9_sample_72 rfl (lv_at hl 3 rfl) ?_
          refine va_iald hx hb hK hP 5 1 rfl rfl (ib_in h_14) dX9_sample_73 ?_
          refine lv_goto (tgt := 78) hx hb dX9_sample_74 (by decide) ?_
          obtain rfl := Option.some.inj hf
          exact W.iret hx hb hr (fun t ht hW => ⟨⟨(), rfl, by rw [ht]; exact hP, hD⟩, hS.F ht⟩) hS.2.2 dX9_sample_78
      · have hf := ifn hf c_13
        by_cases c_17 : p2 = (2 : Int32)
        · have hf := ifp hf c_17
          refine lv_tableIn (off := 63) (tgt := 79) hx hb dX9_sample_16 (by rw [c_17]; decide) (by rw [c_17]; decide) (by rw [c_17]; decide) (by decide) ?_
          refine lv_iconst (v := (1 : Int32)) hx hb dX9_sample_79 (by decide) ?_
          refine lv_istore (lv' := [(5, .int (1 : Int32)), (4, .int p1), (3, .int (0 : Int32)), (0, .ref am), (1, .int p1), (2, .int p2)]) hx hb dX9_sample_80 hl (by decide) rfl (fun ls hl => ?_)
          exact hL82 FU (0 : Int32) p1 (1 : Int32) _ _ _ hf hP hD hS (lv_sub hl [3, 4, 5, 2, 1, 0] rfl)
        · have hf := ifn hf c_17
          by_cases c_18 : p2 = (3 : Int32)
          · have hf := ifp hf c_18
            refine lv_tableIn (off := 102) (tgt := 118) hx hb dX9_sample_16 (by rw [c_18]; decide) (by rw [c_18]; decide) (by rw [c_18]; decide) (by decide) ?_
            exact hL118 FU (0 : Int32) p1 _ _ _ hf hP hD hS (lv_sub hl [2, 3, 4, 1, 0] rfl)
          · have hf := ifn hf c_18
            by_cases c_19 : p2 = (4 : Int32)
            · have hf := ifp hf c_19
              refine lv_tableIn (off := 102) (tgt := 118) hx hb dX9_sample_16 (by rw [c_19]; decide) (by rw [c_19]; decide) (by rw [c_19]; decide) (by decide) ?_
              exact hL118 FU (0 : Int32) p1 _ _ _ hf hP hD hS (lv_sub hl [2, 3, 4, 1, 0] rfl)
            · have hf := ifn hf c_19
              have hneg : p2.toInt < 0 ∨ 4 < p2.toInt := by
                have := lv_neT c_11 (a := 0) (by decide)
                have := lv_neT c_13 (a := 1) (by decide)
                have := lv_neT c_17 (a := 2) (by decide)
                have := lv_neT c_18 (a := 3) (by decide)
                have := lv_neT c_19 (a := 4) (by decide)
                omega
              refine lv_tableOut (tgt := 155) hx hb dX9_sample_16 hneg (by decide) ?_
              refine lv_iconst (v := (-1 : Int32)) hx hb dX9_sample_155 (by decide) ?_
              obtain rfl := Option.some.inj hf
              exact W.iret hx hb hr (fun t ht hW => ⟨⟨(), rfl, by rw [ht]; exact hP, hD⟩, hS.F ht⟩) hS.2.2 dX9_sample_156
  · have hf := ifp hf c_10
    refine lv_iconst (v := (-1 : Int32)) hx hb dX9_sample_8 (by decide) ?_
    obtain rfl := Option.some.inj hf
    exact W.iret hx hb hr (fun t ht hW => ⟨⟨(), rfl, by rw [ht]; exact hP, hD⟩, hS.F ht⟩) hS.2.2 dX9_sample_9

def fX9_volume (dn : Bool) (ms : Int32) (mvo : Nat → Int64) (p1 : Int32) : Option (Int64) := ((fX9_isHere dn ms p1).bind fun r_1 => (if (zb r_1) = 0 then some (-1 : Int64) else (if (ib p1 121) = true then some (mvo p1.toNatClampNeg) else none)))

set_option maxHeartbeats 4000000 in
set_option maxRecDepth 100000 in
theorem cX9_volume_ok (l : Launch) (D : va_G) (y : Nat → ClassId) (am : Nat) (mo : Nat) (m1 : Nat) (m2 : Nat) (m_p : Nat) (m_w : Nat) (m_l : Nat) (m_v : Nat) (m_r : Nat) (m_q : Nat) (nb : Nat) (th : Int32) (mb : Int32) (us : Int32) (me : Int32) (rc : Int32) (dn : Bool) (lf : Int32) (mw : Int32) (mf : Int32) (ms : Int32) (mu : Int32) (ml : Int64) (mz : Int32) (c1 : Nat → Int32) (c2 : Nat → Int32) (mpa : Nat → Int32) (mwe : Nat → Int32) (mli : Nat → Int32) (mvo : Nat → Int64) (mro : Nat → Int32) (mpl : Nat → Int32) (p1 : Int32) (res : Int64) (hf : fX9_volume dn ms mvo p1 = some res) : CT l D y yX9_volume wsX9_volume ({ frames := 1, cells := 0, slots := 0, locals := 21 } : Room) [.ref am, .int p1] [(am, .inr (8, [.int th, .int mb, .ref mo, .int us, .int me, .int rc, .int (zb dn), .int lf, .int mw, .int mf, .ref m_p, .ref m_w, .ref m_l, .ref m_v, .int ms, .int mu, .long ml, .ref m_r, .int mz, .ref m_q])), (mo, .inl (y 4, 2, .inr (.inr (.inr (.inr (outr m1 m2)))))), (m1, .inl (y 0, nb, .inl c1)), (m2, .inl (y 0, nb, .inl c2)), (m_p, .inl (y 1, 121, .inl mpa)), (m_w, .inl (y 1, 121, .inl mwe)), (m_l, .inl (y 3, 121, .inl mli)), (m_v, .inl (y 2, 121, .inr (.inl mvo))), (m_r, .inl (y 0, 32, .inl mro)), (m_q, .inl (y 1, 260, .inl mpl))] (some (.long res)) [(am, .inr (8, [.int th, .int mb, .ref mo, .int us, .int me, .int rc, .int (zb dn), .int lf, .int mw, .int mf, .ref m_p, .ref m_w, .ref m_l, .ref m_v, .int ms, .int mu, .long ml, .ref m_r, .int mz, .ref m_q])), (mo, .inl (y 4, 2, .inr (.inr (.inr (.inr (outr m1 m2)))))), (m1, .inl (y 0, nb, .inl c1)), (m2, .inl (y 0, nb, .inl c2)), (m_p, .inl (y 1, 121, .inl mpa)), (m_w, .inl (y 1, 121, .inl mwe)), (m_l, .inl (y 3, 121, .inl mli)), (m_v, .inl (y 2, 121, .inr (.inl mvo))), (m_r, .inl (y 0, 32, .inl mro)), (m_q, .inl (y 1, 260, .inl mpl))] := by
  intro sz
  refine Met.ofW (cc := cX9_volume) (maxL := 2) (ret := (some .long)) (by decide) rfl ?_
  intro p e s m args below meth c s₁ B hml hv
  obtain ⟨rfl, hsz, hP, hK, hD0, hst, hno⟩ := hv
  have hx := B.exec
  have hb := B.bytes
  have hr := B.returns
  have hts := atoms_spec (ws := wsX9_volume) B.pre
  have hown : s.vm.findClass RX9 = some m.cls := findClass_of_methodNamed B.named
  have hlocks := B.notSynchronized
  subst hsz
  have hD := hD0.self (sz := s.heap.size)
  generalize hAe : va_A [(am, .inr (8, [.int th, .int mb, .ref mo, .int us, .int me, .int rc, .int (zb dn), .int lf, .int mw, .int mf, .ref m_p, .ref m_w, .ref m_l, .ref m_v, .int ms, .int mu, .long ml, .ref m_r, .int mz, .ref m_q])), (mo, .inl (y 4, 2, .inr (.inr (.inr (.inr (outr m1 m2)))))), (m1, .inl (y 0, nb, .inl c1)), (m2, .inl (y 0, nb, .inl c2)), (m_p, .inl (y 1, 121, .inl mpa)), (m_w, .inl (y 1, 121, .inl mwe)), (m_l, .inl (y 3, 121, .inl mli)), (m_v, .inl (y 2, 121, .inr (.inl mvo))), (m_r, .inl (y 0, 32, .inl mro)), (m_q, .inl (y 1, 260, .inl mpl))] s.heap.size = A at hD hst ⊢
  have hA : ∀ q : Nat, s.heap.size ≤ q → A q := fun q h => by rw [← hAe]; exact Or.inr h
  have hS : va_S A s.heap s.heap [] := va_S.rf
  have E : Ev D y A s := ⟨hK, hst, hno, hA⟩
  have hfix : CallFix p m c cX9_volume 2 s _ wsX9_volume RX9 := ⟨hx, hb, hml, hown, hts⟩
  have hP : va_P D vwCl [(am, .inr (8, [.int th, .int mb, .ref mo, .int us, .int me, .int rc, .int (zb dn), .int lf, .int mw, .int mf, .ref m_p, .ref m_w, .ref m_l, .ref m_v, .int ms, .int mu, .long ml, .ref m_r, .int mz, .ref m_q])), (mo, .inl (y 4, 2, .inr (.inr (.inr (.inr (outr m1 m2)))))), (m1, .inl (y 0, nb, .inl c1)), (m2, .inl (y 0, nb, .inl c2)), (m_p, .inl (y 1, 121, .inl mpa)), (m_w, .inl (y 1, 121, .inl mwe)), (m_l, .inl (y 3, 121, .inl mli)), (m_v, .inl (y 2, 121, .inr (.inl mvo))), (m_r, .inl (y 0, 32, .inl mro)), (m_q, .inl (y 1, 260, .inl mpl))] s.heap := hP
  have iX9 : ∀ w ∈ wsX90, w ∈ wsX9_volume := by decide +kernel
  have hl := lv_entry ([.ref am, .int p1]) (n := 2) (Nat.le_of_ble_eq_true rfl)
  rw [lg_entry_eq]
  generalize (lg_sl ([.ref am, .int p1]) ++ List.replicate (2 - (lg_sl ([.ref am, .int p1])).length) Slot.unset).toArray = ls at hl ⊢
  have hl : lv_has ls 2 [(0, .ref am), (1, .int p1)] := hl
  unfold fX9_volume at hf
  refine lv_aload_n hx hb dX9_volume_0 rfl (lv_at hl 0 rfl) ?_
  refine lv_iload_n hx hb dX9_volume_1 rfl (lv_at hl 1 rfl) ?_
  obtain ⟨r_1, hc_2, hf⟩ := obd hf
  refine ct_V (As := [.int p1]) (rest := []) (wr := []) (wn := [(am, .inr (8, [.int th, .int mb, .ref mo, .int us, .int me, .int rc, .int (zb dn), .int lf, .int mw, .int mf, .ref m_p, .ref m_w, .ref m_l, .ref m_v, .int ms, .int mu, .long ml, .ref m_r, .int mz, .ref m_q])), (mo, .inl (y 4, 2, .inr (.inr (.inr (.inr (outr m1 m2)))))), (m1, .inl (y 0, nb, .inl c1)), (m2, .inl (y 0, nb, .inl c2)), (m_p, .inl (y 1, 121, .inl mpa)), (m_w, .inl (y 1, 121, .inl mwe)), (m_l, .inl (y 3, 121, .inl mli)), (m_v, .inl (y 2, 121, .inr (.inl mvo))), (m_r, .inl (y 0, 32, .inl mro)), (m_q, .inl (y 1, 260, .inl mpl))]) hfix (cX9_isHere_ok l D y am mo m1 m2 m_p m_w m_l m_v m_r m_q nb th mb us me rc dn lf mw mf ms mu ml mz c1 c2 mpa mwe mli mvo mro mpl p1 _ hc_2) (cwV 1 hts gX9_volume_X9_isHere rfl rfl rfl (by decide +kernel) ⟨Nat.le_of_ble_eq_true rfl, Nat.le_of_ble_eq_true rfl⟩) E hP hD hS [0, 1, 2, 3, 4, 5, 6, 7, 8, 9] [] [0, 1, 2, 3, 4, 5, 6, 7, 8, 9] rfl rfl rfl rfl (by decide) rfl rfl 0 8 rfl rfl rfl hl.1 rfl (Nat.le_of_ble_eq_true rfl) dX9_volume_2 ⟨Nat.zero_le _, Nat.zero_le _⟩ (fun H locs hP hD hS => ?_)
  refine W.eq (g2 := F0 m 5 ls [.int (zb r_1)]) rfl ?_
  refine lv_if_eq (tgt := 17) hx hb dX9_volume_5 (by decide) (fun c_3 => ?_) (fun c_3 => ?_)
  · have hf := ifp hf c_3
    refine lv_ldc2 (v := (-1 : Int64)) hx hb hown (hts (.constantLong RX9 171 (-1 : Int64)) (by decide +kernel)) dX9_volume_17 ?_
    obtain rfl := Option.some.inj hf
    exact W.lret hx hb hr (fun t ht hW => ⟨⟨(), rfl, by rw [ht]; exact hP, hD⟩, hS.F ht⟩) hS.2.2 dX9_volume_20
  · have hf := ifn hf c_3
    refine lv_aload_n hx hb dX9_volume_8 rfl (lv_at hl 0 rfl) ?_
    refine va_get (D := D) (ci := 8) (v := .ref m_v) (C := RX9) (T := TX9) (N := 20) hx hb hts iX9 hown hK hP 0 rfl rfl 13 (by decide) (hts (.fieldLink RX9 24 "SampleTrackerModel" "volume" "[J") (by decide +kernel)) (fun _ h9 => h9) rfl dX9_volume_9 ?_
    refine lv_iload_n hx hb dX9_volume_12 rfl (lv_at hl 1 rfl) ?_
    obtain ⟨h_4, hf⟩ := ibk hf
    refine va_lald hx hb hK hP 7 2 rfl rfl (ib_in h_4) dX9_volume_13 ?_
    refine lv_goto (tgt := 20) hx hb dX9_volume_14 (by decide) ?_
    obtain rfl := Option.some.inj hf
    exact W.lret hx hb hr (fun t ht hW => ⟨⟨(), rfl, by rw [ht]; exact hP, hD⟩, hS.F ht⟩) hS.2.2 dX9_volume_20

def fX9_well (dn : Bool) (ms : Int32) (mwe : Nat → Int32) (mli : Nat → Int32) (p1 : Int32) : Option (Int32) := (if (zb dn) = 0 then ((fX9_isWell p1).bind fun r_2 => (if (zb r_2) = 0 then some (-1 : Int32) else ((fX9_liveIn ms mwe mli p1).bind fun r_5 => some r_5))) else some (-1 : Int32))

set_option maxHeartbeats 4000000 in
set_option maxRecDepth 100000 in
theorem cX9_well_ok (l : Launch) (D : va_G) (y : Nat → ClassId) (am : Nat) (mo : Nat) (m1 : Nat) (m2 : Nat) (m_p : Nat) (m_w : Nat) (m_l : Nat) (m_v : Nat) (m_r : Nat) (m_q : Nat) (nb : Nat) (th : Int32) (mb : Int32) (us : Int32) (me : Int32) (rc : Int32) (dn : Bool) (lf : Int32) (mw : Int32) (mf : Int32) (ms : Int32) (mu : Int32) (ml : Int64) (mz : Int32) (c1 : Nat → Int32) (c2 : Nat → Int32) (mpa : Nat → Int32) (mwe : Nat → Int32) (mli : Nat → Int32) (mvo : Nat → Int64) (mro : Nat → Int32) (mpl : Nat → Int32) (p1 : Int32) (res : Int32) (hf : fX9_well dn ms mwe mli p1 = some res) : CT l D y yX9_well wsX9_well ({ frames := 1, cells := 0, slots := 0, locals := 22 } : Room) [.ref am, .int p1] [(am, .inr (8, [.int th, .int mb, .ref mo, .int us, .int me, .int rc, .int (zb dn), .int lf, .int mw, .int mf, .ref m_p, .ref m_w, .ref m_l, .ref m_v, .int ms, .int mu, .long ml, .ref m_r, .int mz, .ref m_q])), (mo, .inl (y 4, 2, .inr (.inr (.inr (.inr (outr m1 m2)))))), (m1, .inl (y 0, nb, .inl c1)), (m2, .inl (y 0, nb, .inl c2)), (m_p, .inl (y 1, 121, .inl mpa)), (m_w, .inl (y 1, 121, .inl mwe)), (m_l, .inl (y 3, 121, .inl mli)), (m_v, .inl (y 2, 121, .inr (.inl mvo))), (m_r, .inl (y 0, 32, .inl mro)), (m_q, .inl (y 1, 260, .inl mpl))] (some (.int res)) [(am, .inr (8, [.int th, .int mb, .ref mo, .int us, .int me, .int rc, .int (zb dn), .int lf, .int mw, .int mf, .ref m_p, .ref m_w, .ref m_l, .ref m_v, .int ms, .int mu, .long ml, .ref m_r, .int mz, .ref m_q])), (mo, .inl (y 4, 2, .inr (.inr (.inr (.inr (outr m1 m2)))))), (m1, .inl (y 0, nb, .inl c1)), (m2, .inl (y 0, nb, .inl c2)), (m_p, .inl (y 1, 121, .inl mpa)), (m_w, .inl (y 1, 121, .inl mwe)), (m_l, .inl (y 3, 121, .inl mli)), (m_v, .inl (y 2, 121, .inr (.inl mvo))), (m_r, .inl (y 0, 32, .inl mro)), (m_q, .inl (y 1, 260, .inl mpl))] := by
  intro sz
  refine Met.ofW (cc := cX9_well) (maxL := 2) (ret := (some .int)) (by decide) rfl ?_
  intro p e s m args below meth c s₁ B hml hv
  obtain ⟨rfl, hsz, hP, hK, hD0, hst, hno⟩ := hv
  have hx := B.exec
  have hb := B.bytes
  have hr := B.returns
  have hts := atoms_spec (ws := wsX9_well) B.pre
  have hown : s.vm.findClass RX9 = some m.cls := findClass_of_methodNamed B.named
  have hlocks := B.notSynchronized
  subst hsz
  have hD := hD0.self (sz := s.heap.size)
  generalize hAe : va_A [(am, .inr (8, [.int th, .int mb, .ref mo, .int us, .int me, .int rc, .int (zb dn), .int lf, .int mw, .int mf, .ref m_p, .ref m_w, .ref m_l, .ref m_v, .int ms, .int mu, .long ml, .ref m_r, .int mz, .ref m_q])), (mo, .inl (y 4, 2, .inr (.inr (.inr (.inr (outr m1 m2)))))), (m1, .inl (y 0, nb, .inl c1)), (m2, .inl (y 0, nb, .inl c2)), (m_p, .inl (y 1, 121, .inl mpa)), (m_w, .inl (y 1, 121, .inl mwe)), (m_l, .inl (y 3, 121, .inl mli)), (m_v, .inl (y 2, 121, .inr (.inl mvo))), (m_r, .inl (y 0, 32, .inl mro)), (m_q, .inl (y 1, 260, .inl mpl))] s.heap.size = A at hD hst ⊢
  have hA : ∀ q : Nat, s.heap.size ≤ q → A q := fun q h => by rw [← hAe]; exact Or.inr h
  have hS : va_S A s.heap s.heap [] := va_S.rf
  have E : Ev D y A s := ⟨hK, hst, hno, hA⟩
  have hfix : CallFix p m c cX9_well 2 s _ wsX9_well RX9 := ⟨hx, hb, hml, hown, hts⟩
  have hP : va_P D vwCl [(am, .inr (8, [.int th, .int mb, .ref mo, .int us, .int me, .int rc, .int (zb dn), .int lf, .int mw, .int mf, .ref m_p, .ref m_w, .ref m_l, .ref m_v, .int ms, .int mu, .long ml, .ref m_r, .int mz, .ref m_q])), (mo, .inl (y 4, 2, .inr (.inr (.inr (.inr (outr m1 m2)))))), (m1, .inl (y 0, nb, .inl c1)), (m2, .inl (y 0, nb, .inl c2)), (m_p, .inl (y 1, 121, .inl mpa)), (m_w, .inl (y 1, 121, .inl mwe)), (m_l, .inl (y 3, 121, .inl mli)), (m_v, .inl (y 2, 121, .inr (.inl mvo))), (m_r, .inl (y 0, 32, .inl mro)), (m_q, .inl (y 1, 260, .inl mpl))] s.heap := hP
  have iX9 : ∀ w ∈ wsX90, w ∈ wsX9_well := by decide +kernel
  have hl := lv_entry ([.ref am, .int p1]) (n := 2) (Nat.le_of_ble_eq_true rfl)
  rw [lg_entry_eq]
  generalize (lg_sl ([.ref am, .int p1]) ++ List.replicate (2 - (lg_sl ([.ref am, .int p1])).length) Slot.unset).toArray = ls at hl ⊢
  have hl : lv_has ls 2 [(0, .ref am), (1, .int p1)] := hl
  unfold fX9_well at hf
  refine lv_aload_n hx hb dX9_well_0 rfl (lv_at hl 0 rfl) ?_
  refine va_get (D := D) (ci := 8) (v := .int (zb dn)) (C := RX9) (T := TX9) (N := 20) hx hb hts iX9 hown hK hP 0 rfl rfl 6 (by decide) (hts (.fieldLink RX9 77 "SampleTrackerModel" "isDown" "Z") (by decide +kernel)) (fun _ h9 => h9) rfl dX9_well_1 ?_
  refine lv_if_ne (tgt := 14) hx hb dX9_well_4 (by decide) (fun c_1 => ?_) (fun c_1 => ?_)
  · have hf := ifn hf c_1
    refine lv_iconst (v := (-1 : Int32)) hx hb dX9_well_14 (by decide) ?_
    refine lv_goto (tgt := 23) hx hb dX9_well_15 (by decide) ?_
    obtain rfl := Option.some.inj hf
    exact W.iret hx hb hr (fun t ht hW => ⟨⟨(), rfl, by rw [ht]; exact hP, hD⟩, hS.F ht⟩) hS.2.2 dX9_well_23
  · have hf := ifp hf c_1
    refine lv_iload_n hx hb dX9_well_7 rfl (lv_at hl 1 rfl) ?_
    obtain ⟨r_2, hc_3, hf⟩ := obd hf
    refine ct_S (As := [.int p1]) (rest := []) (wr := [(am, .inr (8, [.int th, .int mb, .ref mo, .int us, .int me, .int rc, .int (zb dn), .int lf, .int mw, .int mf, .ref m_p, .ref m_w, .ref m_l, .ref m_v, .int ms, .int mu, .long ml, .ref m_r, .int mz, .ref m_q])), (mo, .inl (y 4, 2, .inr (.inr (.inr (.inr (outr m1 m2)))))), (m1, .inl (y 0, nb, .inl c1)), (m2, .inl (y 0, nb, .inl c2)), (m_p, .inl (y 1, 121, .inl mpa)), (m_w, .inl (y 1, 121, .inl mwe)), (m_l, .inl (y 3, 121, .inl mli)), (m_v, .inl (y 2, 121, .inr (.inl mvo))), (m_r, .inl (y 0, 32, .inl mro)), (m_q, .inl (y 1, 260, .inl mpl))]) (wn := [(am, .inr (8, [.int th, .int mb, .ref mo, .int us, .int me, .int rc, .int (zb dn), .int lf, .int mw, .int mf, .ref m_p, .ref m_w, .ref m_l, .ref m_v, .int ms, .int mu, .long ml, .ref m_r, .int mz, .ref m_q])), (mo, .inl (y 4, 2, .inr (.inr (.inr (.inr (outr m1 m2)))))), (m1, .inl (y 0, nb, .inl c1)), (m2, .inl (y 0, nb, .inl c2)), (m_p, .inl (y 1, 121, .inl mpa)), (m_w, .inl (y 1, 121, .inl mwe)), (m_l, .inl (y 3, 121, .inl mli)), (m_v, .inl (y 2, 121, .inr (.inl mvo))), (m_r, .inl (y 0, 32, .inl mro)), (m_q, .inl (y 1, 260, .inl mpl))]) hfix (cX9_isWell_ok l D y p1 _ hc_3) (va_cwS 1 hts gX9_well_X9_isWell rfl rfl rfl (by decide +kernel) ⟨Nat.le_of_ble_eq_true rfl, Nat.le_of_ble_eq_true rfl⟩) E hP hD hS [] [0, 1, 2, 3, 4, 5, 6, 7, 8, 9] [0, 1, 2, 3, 4, 5, 6, 7, 8, 9] rfl rfl rfl rfl (by decide) rfl rfl rfl hl.1 rfl (Nat.le_of_ble_eq_true rfl) dX9_well_8 ⟨Nat.zero_le _, Nat.zero_le _⟩ (fun H locs hP hD hS => ?_)
    refine W.eq (g2 := F0 m 11 ls [.int (zb r_2)]) rfl ?_
    refine lv_if_ne (tgt := 18) hx hb dX9_well_11 (by decide) (fun c_4 => ?_) (fun c_4 => ?_)
    · have hf := ifn hf c_4
      refine lv_aload_n hx hb dX9_well_18 rfl (lv_at hl 0 rfl) ?_
      refine lv_iload_n hx hb dX9_well_19 rfl (lv_at hl 1 rfl) ?_
      obtain ⟨r_5, hc_6, hf⟩ := obd hf
      refine ct_V (As := [.int p1]) (rest := []) (wr := []) (wn := [(am, .inr (8, [.int th, .int mb, .ref mo, .int us, .int me, .int rc, .int (zb dn), .int lf, .int mw, .int mf, .ref m_p, .ref m_w, .ref m_l, .ref m_v, .int ms, .int mu, .long ml, .ref m_r, .int mz, .ref m_q])), (mo, .inl (y 4, 2, .inr (.inr (.inr (.inr (outr m1 m2)))))), (m1, .inl (y 0, nb, .inl c1)), (m2, .inl (y 0, nb, .inl c2)), (m_p, .inl (y 1, 121, .inl mpa)), (m_w, .inl (y 1, 121, .inl mwe)), (m_l, .inl (y 3, 121, .inl mli)), (m_v, .inl (y 2, 121, .inr (.inl mvo))), (m_r, .inl (y 0, 32, .inl mro)), (m_q, .inl (y 1, 260, .inl mpl))]) hfix (cX9_liveIn_ok l D y am mo m1 m2 m_p m_w m_l m_v m_r m_q nb th mb us me rc dn lf mw mf ms mu ml mz c1 c2 mpa mwe mli mvo mro mpl p1 _ hc_6) (cwV 1 hts gX9_well_X9_liveIn rfl rfl rfl (by decide +kernel) ⟨Nat.le_of_ble_eq_true rfl, Nat.le_of_ble_eq_true rfl⟩) E hP hD hS [0, 1, 2, 3, 4, 5, 6, 7, 8, 9] [] [0, 1, 2, 3, 4, 5, 6, 7, 8, 9] rfl rfl rfl rfl (by decide) rfl rfl 0 8 rfl rfl rfl hl.1 rfl (Nat.le_of_ble_eq_true rfl) dX9_well_20 ⟨Nat.zero_le _, Nat.zero_le _⟩ (fun H locs hP hD hS => ?_)
      refine W.eq (g2 := F0 m 23 ls [.int r_5]) rfl ?_
      obtain rfl := Option.some.inj hf
      exact W.iret hx hb hr (fun t ht hW => ⟨⟨(), rfl, by rw [ht]; exact hP, hD⟩, hS.F ht⟩) hS.2.2 dX9_well_23
    · have hf := ifp hf c_4
      refine lv_iconst (v := (-1 : Int32)) hx hb dX9_well_14 (by decide) ?_
      refine lv_goto (tgt := 23) hx hb dX9_well_15 (by decide) ?_
      obtain rfl := Option.some.inj hf
      exact W.iret hx hb hr (fun t ht hW => ⟨⟨(), rfl, by rw [ht]; exact hP, hD⟩, hS.F ht⟩) hS.2.2 dX9_well_23

def fX9_total_94 (mpa : Nat → Int32) (mvo : Nat → Int64) (p2 : Int32) (v81_0 : Int64) (v81_1 : Int32) (k81 : Int64 → Int32 → Option (Int64)) : Nat → Int32 → Option (Int64)
  | 0, _ => none
  | n94 + 1, v94_0 => (if v94_0 = p2 then (if (ib v81_1 121) = true then k81 (v81_0 + (mvo v81_1.toNatClampNeg)) (v81_1 + (1 : Int32)) else none) else (if v94_0 = 0 then k81 (v81_0 + (0 : Int64)) (v81_1 + (1 : Int32)) else (if (ib v94_0 121) = true then fX9_total_94 mpa mvo p2 v81_0 v81_1 k81 n94 (mpa v94_0.toNatClampNeg) else none)))

def fX9_total_81 (ms : Int32) (mpa : Nat → Int32) (mvo : Nat → Int64) (p2 : Int32) : Nat → Int64 → Int32 → Option (Int64)
  | 0, _, _ => none
  | n81 + 1, v81_0, v81_1 => (if ms < v81_1 then some v81_0 else fX9_total_94 mpa mvo p2 v81_0 v81_1 (fX9_total_81 ms mpa mvo p2 n81) FU v81_1)

def fX9_total (dn : Bool) (ms : Int32) (ml : Int64) (mpa : Nat → Int32) (mvo : Nat → Int64) (p1 : Int32) (p2 : Int32) : Option (Int64) := (if (zb dn) = 0 then (if p1 = (0 : Int32) then ((fX9_liveVolume ms mvo).bind fun r_10 => some r_10) else (if p1 = (1 : Int32) then some ml else (if p1 = (2 : Int32) then ((fX9_liveVolume ms mvo).bind fun r_14 => some (r_14 + ml)) else (if p1 = (3 : Int32) then ((fX9_isHere dn ms p2).bind fun r_17 => (if (zb r_17) = 0 then some (-1 : Int64) else fX9_total_81 ms mpa mvo p2 FU (0 : Int64) (1 : Int32))) else some (-1 : Int64))))) else some (-1 : Int64))

set_option maxHeartbeats 4000000 in
set_option maxRecDepth 100000 in
theorem cX9_total_ok (l : Launch) (D : va_G) (y : Nat → ClassId) (am : Nat) (mo : Nat) (m1 : Nat) (m2 : Nat) (m_p : Nat) (m_w : Nat) (m_l : Nat) (m_v : Nat) (m_r : Nat) (m_q : Nat) (nb : Nat) (th : Int32) (mb : Int32) (us : Int32) (me : Int32) (rc : Int32) (dn : Bool) (lf : Int32) (mw : Int32) (mf : Int32) (ms : Int32) (mu : Int32) (ml : Int64) (mz : Int32) (c1 : Nat → Int32) (c2 : Nat → Int32) (mpa : Nat → Int32) (mwe : Nat → Int32) (mli : Nat → Int32) (mvo : Nat → Int64) (mro : Nat → Int32) (mpl : Nat → Int32) (p1 : Int32) (p2 : Int32) (res : Int64) (hf : fX9_total dn ms ml mpa mvo p1 p2 = some res) : CT l D y yX9_total wsX9_total ({ frames := 1, cells := 0, slots := 0, locals := 23 } : Room) [.ref am, .int p1, .int p2] [(am, .inr (8, [.int th, .int mb, .ref mo, .int us, .int me, .int rc, .int (zb dn), .int lf, .int mw, .int mf, .ref m_p, .ref m_w, .ref m_l, .ref m_v, .int ms, .int mu, .long ml, .ref m_r, .int mz, .ref m_q])), (mo, .inl (y 4, 2, .inr (.inr (.inr (.inr (outr m1 m2)))))), (m1, .inl (y 0, nb, .inl c1)), (m2, .inl (y 0, nb, .inl c2)), (m_p, .inl (y 1, 121, .inl mpa)), (m_w, .inl (y 1, 121, .inl mwe)), (m_l, .inl (y 3, 121, .inl mli)), (m_v, .inl (y 2, 121, .inr (.inl mvo))), (m_r, .inl (y 0, 32, .inl mro)), (m_q, .inl (y 1, 260, .inl mpl))] (some (.long res)) [(am, .inr (8, [.int th, .int mb, .ref mo, .int us, .int me, .int rc, .int (zb dn), .int lf, .int mw, .int mf, .ref m_p, .ref m_w, .ref m_l, .ref m_v, .int ms, .int mu, .long ml, .ref m_r, .int mz, .ref m_q])), (mo, .inl (y 4, 2, .inr (.inr (.inr (.inr (outr m1 m2)))))), (m1, .inl (y 0, nb, .inl c1)), (m2, .inl (y 0, nb, .inl c2)), (m_p, .inl (y 1, 121, .inl mpa)), (m_w, .inl (y 1, 121, .inl mwe)), (m_l, .inl (y 3, 121, .inl mli)), (m_v, .inl (y 2, 121, .inr (.inl mvo))), (m_r, .inl (y 0, 32, .inl mro)), (m_q, .inl (y 1, 260, .inl mpl))] := by
  intro sz
  refine Met.ofW (cc := cX9_total) (maxL := 7) (ret := (some .long)) (by decide) rfl ?_
  intro p e s m args below meth c s₁ B hml hv
  obtain ⟨rfl, hsz, hP, hK, hD0, hst, hno⟩ := hv
  have hx := B.exec
  have hb := B.bytes
  have hr := B.returns
  have hts := atoms_spec (ws := wsX9_total) B.pre
  have hown : s.vm.findClass RX9 = some m.cls := findClass_of_methodNamed B.named
  have hlocks := B.notSynchronized
  subst hsz
  have hD := hD0.self (sz := s.heap.size)
  generalize hAe : va_A [(am, .inr (8, [.int th, .int mb, .ref mo, .int us, .int me, .int rc, .int (zb dn), .int lf, .int mw, .int mf, .ref m_p, .ref m_w, .ref m_l, .ref m_v, .int ms, .int mu, .long ml, .ref m_r, .int mz, .ref m_q])), (mo, .inl (y 4, 2, .inr (.inr (.inr (.inr (outr m1 m2)))))), (m1, .inl (y 0, nb, .inl c1)), (m2, .inl (y 0, nb, .inl c2)), (m_p, .inl (y 1, 121, .inl mpa)), (m_w, .inl (y 1, 121, .inl mwe)), (m_l, .inl (y 3, 121, .inl mli)), (m_v, .inl (y 2, 121, .inr (.inl mvo))), (m_r, .inl (y 0, 32, .inl mro)), (m_q, .inl (y 1, 260, .inl mpl))] s.heap.size = A at hD hst ⊢
  have hA : ∀ q : Nat, s.heap.size ≤ q → A q := fun q h => by rw [← hAe]; exact Or.inr h
  have hS : va_S A s.heap s.heap [] := va_S.rf
  have E : Ev D y A s := ⟨hK, hst, hno, hA⟩
  have hfix : CallFix p m c cX9_total 7 s _ wsX9_total RX9 := ⟨hx, hb, hml, hown, hts⟩
  have hP : va_P D vwCl [(am, .inr (8, [.int th, .int mb, .ref mo, .int us, .int me, .int rc, .int (zb dn), .int lf, .int mw, .int mf, .ref m_p, .ref m_w, .ref m_l, .ref m_v, .int ms, .int mu, .long ml, .ref m_r, .int mz, .ref m_q])), (mo, .inl (y 4, 2, .inr (.inr (.inr (.inr (outr m1 m2)))))), (m1, .inl (y 0, nb, .inl c1)), (m2, .inl (y 0, nb, .inl c2)), (m_p, .inl (y 1, 121, .inl mpa)), (m_w, .inl (y 1, 121, .inl mwe)), (m_l, .inl (y 3, 121, .inl mli)), (m_v, .inl (y 2, 121, .inr (.inl mvo))), (m_r, .inl (y 0, 32, .inl mro)), (m_q, .inl (y 1, 260, .inl mpl))] s.heap := hP
  have iX9 : ∀ w ∈ wsX90, w ∈ wsX9_total := by decide +kernel
  have hl := lv_entry ([.ref am, .int p1, .int p2]) (n := 7) (Nat.le_of_ble_eq_true rfl)
  rw [lg_entry_eq]
  generalize (lg_sl ([.ref am, .int p1, .int p2]) ++ List.replicate (7 - (lg_sl ([.ref am, .int p1, .int p2])).length) Slot.unset).toArray = ls at hl ⊢
  have hl : lv_has ls 7 [(0, .ref am), (1, .int p1), (2, .int p2)] := hl
  have hL81 : ∀ (n81 : Nat) (v81_0 : Int64) (v81_1 : Int32) (H : Heap) (locs : List Loc) (ls : Array Slot), fX9_total_81 ms mpa mvo p2 n81 v81_0 v81_1 = some res → va_P D vwCl [(am, .inr (8, [.int th, .int mb, .ref mo, .int us, .int me, .int rc, .int (zb dn), .int lf, .int mw, .int mf, .ref m_p, .ref m_w, .ref m_l, .ref m_v, .int ms, .int mu, .long ml, .ref m_r, .int mz, .ref m_q])), (mo, .inl (y 4, 2, .inr (.inr (.inr (.inr (outr m1 m2)))))), (m1, .inl (y 0, nb, .inl c1)), (m2, .inl (y 0, nb, .inl c2)), (m_p, .inl (y 1, 121, .inl mpa)), (m_w, .inl (y 1, 121, .inl mwe)), (m_l, .inl (y 3, 121, .inl mli)), (m_v, .inl (y 2, 121, .inr (.inl mvo))), (m_r, .inl (y 0, 32, .inl mro)), (m_q, .inl (y 1, 260, .inl mpl))] H → va_D A [(am, .inr (8, [.int th, .int mb, .ref mo, .int us, .int me, .int rc, .int (zb dn), .int lf, .int mw, .int mf, .ref m_p, .ref m_w, .ref m_l, .ref m_v, .int ms, .int mu, .long ml, .ref m_r, .int mz, .ref m_q])), (mo, .inl (y 4, 2, .inr (.inr (.inr (.inr (outr m1 m2)))))), (m1, .inl (y 0, nb, .inl c1)), (m2, .inl (y 0, nb, .inl c2)), (m_p, .inl (y 1, 121, .inl mpa)), (m_w, .inl (y 1, 121, .inl mwe)), (m_l, .inl (y 3, 121, .inl mli)), (m_v, .inl (y 2, 121, .inr (.inl mvo))), (m_r, .inl (y 0, 32, .inl mro)), (m_q, .inl (y 1, 260, .inl mpl))] → va_S A s.heap H locs → lv_has ls 7 [(0, .ref am), (1, .int p1), (2, .int p2), (3, .long v81_0), (5, .int v81_1)] → W p l e (headSpec wsX9_total ({ frames := 1, cells := 0, slots := 0, locals := 23 } : Room)).room s m ([.ref am, .int p1, .int p2] : List Value).toArray below meth c H locs 0 0 (MQ below (Po D (fun _ : Unit => some (.long res)) (fun _ => [(am, .inr (8, [.int th, .int mb, .ref mo, .int us, .int me, .int rc, .int (zb dn), .int lf, .int mw, .int mf, .ref m_p, .ref m_w, .ref m_l, .ref m_v, .int ms, .int mu, .long ml, .ref m_r, .int mz, .ref m_q])), (mo, .inl (y 4, 2, .inr (.inr (.inr (.inr (outr m1 m2)))))), (m1, .inl (y 0, nb, .inl c1)), (m2, .inl (y 0, nb, .inl c2)), (m_p, .inl (y 1, 121, .inl mpa)), (m_w, .inl (y 1, 121, .inl mwe)), (m_l, .inl (y 3, 121, .inl mli)), (m_v, .inl (y 2, 121, .inr (.inl mvo))), (m_r, .inl (y 0, 32, .inl mro)), (m_q, .inl (y 1, 260, .inl mpl))]) A) ([.ref am, .int p1, .int p2] : List Value).toArray s 0 0 A) (F0 m 81 ls []) := by
    intro n81
    induction n81 with
    | zero =>
      intro v81_0 v81_1 H locs ls hf
      exact absurd (show (none : Option (Int64)) = some res from hf) (fun q => by cases q)
    | succ n81 ih81 =>
      intro v81_0 v81_1 H locs ls hf hP hD hS hl
      unfold fX9_total_81 at hf
      have hL94 : ∀ (n94 : Nat) (v94_0 : Int32) (H : Heap) (locs : List Loc) (ls : Array Slot), fX9_total_94 mpa mvo p2 v81_0 v81_1 (fX9_total_81 ms mpa mvo p2 n81) n94 v94_0 = some res → va_P D vwCl [(am, .inr (8, [.int th, .int mb, .ref mo, .int us, .int me, .int rc, .int (zb dn), .int lf, .int mw, .int mf, .ref m_p, .ref m_w, .ref m_l, .ref m_v, .int ms, .int mu, .long ml, .ref m_r, .int mz, .ref m_q])), (mo, .inl (y 4, 2, .inr (.inr (.inr (.inr (outr m1 m2)))))), (m1, .inl (y 0, nb, .inl c1)), (m2, .inl (y 0, nb, .inl c2)), (m_p, .inl (y 1, 121, .inl mpa)), (m_w, .inl (y 1, 121, .inl mwe)), (m_l, .inl (y 3, 121, .inl mli)), (m_v, .inl (y 2, 121, .inr (.inl mvo))), (m_r, .inl (y 0, 32, .inl mro)), (m_q, .inl (y 1, 260, .inl mpl))] H → va_D A [(am, .inr (8, [.int th, .int mb, .ref mo, .int us, .int me, .int rc, .int (zb dn), .int lf, .int mw, .int mf, .ref m_p, .ref m_w, .ref m_l, .ref m_v, .int ms, .int mu, .long ml, .ref m_r, .int mz, .ref m_q])), (mo, .inl (y 4, 2, .inr (.inr (.inr (.inr (outr m1 m2)))))), (m1, .inl (y 0, nb, .inl c1)), (m2, .inl (y 0, nb, .inl c2)), (m_p, .inl (y 1, 121, .inl mpa)), (m_w, .inl (y 1, 121, .inl mwe)), (m_l, .inl (y 3, 121, .inl mli)), (m_v, .inl (y 2, 121, .inr (.inl mvo))), (m_r, .inl (y 0, 32, .inl mro)), (m_q, .inl (y 1, 260, .inl mpl))] → va_S A s.heap H locs → lv_has ls 7 [(0, .ref am), (1, .int p1), (2, .int p2), (3, .long v81_0), (5, .int v81_1), (6, .int v94_0)] → W p l e (headSpec wsX9_total ({ frames := 1, cells := 0, slots := 0, locals := 23 } : Room)).room s m ([.ref am, .int p1, .int p2] : List Value).toArray below meth c H locs 0 0 (MQ below (Po D (fun _ : Unit => some (.long res)) (fun _ => [(am, .inr (8, [.int th, .int mb, .ref mo, .int us, .int me, .int rc, .int (zb dn), .int lf, .int mw, .int mf, .ref m_p, .ref m_w, .ref m_l, .ref m_v, .int ms, .int mu, .long ml, .ref m_r, .int mz, .ref m_q])), (mo, .inl (y 4, 2, .inr (.inr (.inr (.inr (outr m1 m2)))))), (m1, .inl (y 0, nb, .inl c1)), (m2, .inl (y 0, nb, .inl c2)), (m_p, .inl (y 1, 121, .inl mpa)), (m_w, .inl (y 1, 121, .inl mwe)), (m_l, .inl (y 3, 121, .inl mli)), (m_v, .inl (y 2, 121, .inr (.inl mvo))), (m_r, .inl (y 0, 32, .inl mro)), (m_q, .inl (y 1, 260, .inl mpl))]) A) ([.ref am, .int p1, .int p2] : List Value).toArray s 0 0 A) (F0 m 94 ls []) := by
        intro n94
        induction n94 with
        | zero =>
          intro v94_0 H locs ls hf
          exact absurd (show (none : Option (Int64)) = some res from hf) (fun q => by cases q)
        | succ n94 ih94 =>
          intro v94_0 H locs ls hf hP hD hS hl
          unfold fX9_total_94 at hf
          refine lv_iload hx hb dX9_total_94 (lv_at hl 5 rfl) ?_
          refine lv_iload_n hx hb dX9_total_96 rfl (lv_at hl 2 rfl) ?_
          refine lv_icmp_eq (tgt := 117) hx hb dX9_total_97 (by decide) (fun c_1 => ?_) (fun c_1 => ?_)
          · have hf := ifp hf c_1
            refine lv_lload_n hx hb dX9_total_117 rfl (lv_at hl 3 rfl) ?_
            refine lv_iload hx hb dX9_total_118 (lv_at hl 5 rfl) ?_
            refine lv_iload_n hx hb dX9_total_120 rfl (lv_at hl 2 rfl) ?_
            refine lv_icmp_ne (tgt := 134) hx hb dX9_total_121 (by decide) (fun c_2 => absurd c_1 c_2) (fun c_2 => ?_)
            refine lv_aload_n hx hb dX9_total_124 rfl (lv_at hl 0 rfl) ?_
            refine va_get (D := D) (ci := 8) (v := .ref m_v) (C := RX9) (T := TX9) (N := 20) hx hb hts iX9 hown hK hP 0 rfl rfl 13 (by decide) (hts (.fieldLink RX9 24 "SampleTrackerModel" "volume" "[J") (by decide +kernel)) (fun _ h9 => h9) rfl dX9_total_125 ?_
            refine lv_iload hx hb dX9_total_128 (lv_at hl 4 rfl) ?_
            obtain ⟨h_3, hf⟩ := ibk hf
            refine va_lald hx hb hK hP 7 2 rfl rfl (ib_in h_3) dX9_total_130 ?_
            refine lv_goto (tgt := 135) hx hb dX9_total_131 (by decide) ?_
            refine lv_ladd hx hb dX9_total_135 ?_
            refine lv_lstore_n (lv' := [(3, .long (v81_0 + (mvo v81_1.toNatClampNeg))), (0, .ref am), (1, .int p1), (2, .int p2), (5, .int v81_1), (6, .int v94_0)]) hx hb dX9_total_136 rfl hl (by decide) rfl (fun ls hl => ?_)
            refine lv_iinc (v := (v81_1 + (1 : Int32))) (lv' := [(5, .int (v81_1 + (1 : Int32))), (3, .long (v81_0 + (mvo v81_1.toNatClampNeg))), (0, .ref am), (1, .int p1), (2, .int p2), (6, .int v94_0)]) hx hb dX9_total_137 hl (k := 4) rfl rfl (by decide) rfl (fun ls hl => ?_)
            refine lv_goto (tgt := 81) hx hb dX9_total_140 (by decide) ?_
            exact ih81 (v81_0 + (mvo v81_1.toNatClampNeg)) (v81_1 + (1 : Int32)) _ _ _ hf hP hD hS (lv_sub hl [2, 3, 4, 1, 0] rfl)
          · have hf := ifn hf c_1
            refine lv_iload hx hb dX9_total_100 (lv_at hl 5 rfl) ?_
            refine lv_if_eq (tgt := 117) hx hb dX9_total_102 (by decide) (fun c_4 => ?_) (fun c_4 => ?_)
            · have hf := ifp hf c_4
              refine lv_lload_n hx hb dX9_total_117 rfl (lv_at hl 3 rfl) ?_
              refine lv_iload hx hb dX9_total_118 (lv_at hl 5 rfl) ?_
              refine lv_iload_n hx hb dX9_total_120 rfl (lv_at hl 2 rfl) ?_
              refine lv_icmp_ne (tgt := 134) hx hb dX9_total_121 (by decide) (fun c_5 => ?_) (fun c_5 => absurd c_5 c_1)
              refine lv_lconst (v := (0 : Int64)) hx hb dX9_total_134 (by decide) ?_
              refine lv_ladd hx hb dX9_total_135 ?_
              refine lv_lstore_n (lv' := [(3, .long (v81_0 + (0 : Int64))), (0, .ref am), (1, .int p1), (2, .int p2), (5, .int v81_1), (6, .int v94_0)]) hx hb dX9_total_136 rfl hl (by decide) rfl (fun ls hl => ?_)
              refine lv_iinc (v := (v81_1 + (1 : Int32))) (lv' := [(5, .int (v81_1 + (1 : Int32))), (3, .long (v81_0 + (0 : Int64))), (0, .ref am), (1, .int p1), (2, .int p2), (6, .int v94_0)]) hx hb dX9_total_137 hl (k := 4) rfl rfl (by decide) rfl (fun ls hl => ?_)
              refine lv_goto (tgt := 81) hx hb dX9_total_140 (by decide) ?_
              exact ih81 (v81_0 + (0 : Int64)) (v81_1 + (1 : Int32)) _ _ _ hf hP hD hS (lv_sub hl [2, 3, 4, 1, 0] rfl)
            · have hf := ifn hf c_4
              refine lv_aload_n hx hb dX9_total_105 rfl (lv_at hl 0 rfl) ?_
              refine va_get (D := D) (ci := 8) (v := .ref m_p) (C := RX9) (T := TX9) (N := 20) hx hb hts iX9 hown hK hP 0 rfl rfl 10 (by decide) (hts (.fieldLink RX9 13 "SampleTrackerModel" "parent" "[I") (by decide +kernel)) (fun _ h9 => h9) rfl dX9_total_106 ?_
              refine lv_iload hx hb dX9_total_109 (lv_at hl 5 rfl) ?_
              obtain ⟨h_6, hf⟩ := ibk hf
              refine va_iald hx hb hK hP 4 1 rfl rfl (ib_in h_6) dX9_total_111 ?_
              refine lv_istore (lv' := [(6, .int (mpa v94_0.toNatClampNeg)), (0, .ref am), (1, .int p1), (2, .int p2), (3, .long v81_0), (5, .int v81_1)]) hx hb dX9_total_112 hl (by decide) rfl (fun ls hl => ?_)
              refine lv_goto (tgt := 94) hx hb dX9_total_114 (by decide) ?_
              exact ih94 (mpa v94_0.toNatClampNeg) _ _ _ hf hP hD hS (lv_sub hl [1, 2, 3, 4, 5, 0] rfl)
      refine lv_iload hx hb dX9_total_81 (lv_at hl 4 rfl) ?_
      refine lv_aload_n hx hb dX9_total_83 rfl (lv_at hl 0 rfl) ?_
      refine va_get (D := D) (ci := 8) (v := .int ms) (C := RX9) (T := TX9) (N := 20) hx hb hts iX9 hown hK hP 0 rfl rfl 14 (by decide) (hts (.fieldLink RX9 115 "SampleTrackerModel" "samples" "I") (by decide +kernel)) (fun _ h9 => h9) rfl dX9_total_84 ?_
      refine lv_icmp_gt (tgt := 143) hx hb dX9_total_87 (by decide) (fun c_7 => ?_) (fun c_7 => ?_)
      · have hf := ifp hf c_7
        refine lv_lload_n hx hb dX9_total_143 rfl (lv_at hl 3 rfl) ?_
        obtain rfl := Option.some.inj hf
        exact W.lret hx hb hr (fun t ht hW => ⟨⟨(), rfl, by rw [ht]; exact hP, hD⟩, hS.F ht⟩) hS.2.2 dX9_total_144
      · have hf := ifn hf c_7
        refine lv_iload hx hb dX9_total_90 (lv_at hl 4 rfl) ?_
        refine lv_istore (lv' := [(6, .int v81_1), (0, .ref am), (1, .int p1), (2, .int p2), (3, .long v81_0), (5, .int v81_1)]) hx hb dX9_total_92 hl (by decide) rfl (fun ls hl => ?_)
        exact hL94 FU v81_1 _ _ _ hf hP hD hS (lv_sub hl [1, 2, 3, 4, 5, 0] rfl)
  unfold fX9_total at hf
  refine lv_aload_n hx hb dX9_total_0 rfl (lv_at hl 0 rfl) ?_
  refine va_get (D := D) (ci := 8) (v := .int (zb dn)) (C := RX9) (T := TX9) (N := 20) hx hb hts iX9 hown hK hP 0 rfl rfl 6 (by decide) (hts (.fieldLink RX9 77 "SampleTrackerModel" "isDown" "Z") (by decide +kernel)) (fun _ h9 => h9) rfl dX9_total_1 ?_
  refine lv_if_eq (tgt := 11) hx hb dX9_total_4 (by decide) (fun c_8 => ?_) (fun c_8 => ?_)
  · have hf := ifp hf c_8
    refine lv_iload_n hx hb dX9_total_11 rfl (lv_at hl 1 rfl) ?_
    by_cases c_9 : p1 = (0 : Int32)
    · have hf := ifp hf c_9
      refine lv_tableIn (off := 32) (tgt := 44) hx hb dX9_total_12 (by rw [c_9]; decide) (by rw [c_9]; decide) (by rw [c_9]; decide) (by decide) ?_
      refine lv_aload_n hx hb dX9_total_44 rfl (lv_at hl 0 rfl) ?_
      obtain ⟨r_10, hc_11, hf⟩ := obd hf
      refine ct_V (As := []) (rest := []) (wr := []) (wn := [(am, .inr (8, [.int th, .int mb, .ref mo, .int us, .int me, .int rc, .int (zb dn), .int lf, .int mw, .int mf, .ref m_p, .ref m_w, .ref m_l, .ref m_v, .int ms, .int mu, .long ml, .ref m_r, .int mz, .ref m_q])), (mo, .inl (y 4, 2, .inr (.inr (.inr (.inr (outr m1 m2)))))), (m1, .inl (y 0, nb, .inl c1)), (m2, .inl (y 0, nb, .inl c2)), (m_p, .inl (y 1, 121, .inl mpa)), (m_w, .inl (y 1, 121, .inl mwe)), (m_l, .inl (y 3, 121, .inl mli)), (m_v, .inl (y 2, 121, .inr (.inl mvo))), (m_r, .inl (y 0, 32, .inl mro)), (m_q, .inl (y 1, 260, .inl mpl))]) hfix (cX9_liveVolume_ok l D y am mo m1 m2 m_p m_w m_l m_v m_r m_q nb th mb us me rc dn lf mw mf ms mu ml mz c1 c2 mpa mwe mli mvo mro mpl _ hc_11) (cwV 0 hts gX9_total_X9_liveVolume rfl rfl rfl (by decide +kernel) ⟨Nat.le_of_ble_eq_true rfl, Nat.le_of_ble_eq_true rfl⟩) E hP hD hS [0, 1, 2, 3, 4, 5, 6, 7, 8, 9] [] [0, 1, 2, 3, 4, 5, 6, 7, 8, 9] rfl rfl rfl rfl (by decide) rfl rfl 0 8 rfl rfl rfl hl.1 rfl (Nat.le_of_ble_eq_true rfl) dX9_total_45 ⟨Nat.zero_le _, Nat.zero_le _⟩ (fun H locs hP hD hS => ?_)
      refine W.eq (g2 := F0 m 48 ls [.long r_10]) rfl ?_
      obtain rfl := Option.some.inj hf
      exact W.lret hx hb hr (fun t ht hW => ⟨⟨(), rfl, by rw [ht]; exact hP, hD⟩, hS.F ht⟩) hS.2.2 dX9_total_48
    · have hf := ifn hf c_9
      by_cases c_12 : p1 = (1 : Int32)
      · have hf := ifp hf c_12
        refine lv_tableIn (off := 37) (tgt := 49) hx hb dX9_total_12 (by rw [c_12]; decide) (by rw [c_12]; decide) (by rw [c_12]; decide) (by decide) ?_
        refine lv_aload_n hx hb dX9_total_49 rfl (lv_at hl 0 rfl) ?_
        refine va_get (D := D) (ci := 8) (v := .long ml) (C := RX9) (T := TX9) (N := 20) hx hb hts iX9 hown hK hP 0 rfl rfl 16 (by decide) (hts (.fieldLink RX9 118 "SampleTrackerModel" "lost" "J") (by decide +kernel)) (fun _ h9 => h9) rfl dX9_total_50 ?_
        obtain rfl := Option.some.inj hf
        exact W.lret hx hb hr (fun t ht hW => ⟨⟨(), rfl, by rw [ht]; exact hP, hD⟩, hS.F ht⟩) hS.2.2 dX9_total_53
      · have hf := ifn hf c_12
        by_cases c_13 : p1 = (2 : Int32)
        · have hf := ifp hf c_13
          refine lv_tableIn (off := 42) (tgt := 54) hx hb dX9_total_12 (by rw [c_13]; decide) (by rw [c_13]; decide) (by rw [c_13]; decide) (by decide) ?_
          refine lv_aload_n hx hb dX9_total_54 rfl (lv_at hl 0 rfl) ?_
          obtain ⟨r_14, hc_15, hf⟩ := obd hf
          refine ct_V (As := []) (rest := []) (wr := []) (wn := [(am, .inr (8, [.int th, .int mb, .ref mo, .int us, .int me, .int rc, .int (zb dn), .int lf, .int mw, .int mf, .ref m_p, .ref m_w, .ref m_l, .ref m_v, .int ms, .int mu, .long ml, .ref m_r, .int mz, .ref m_q])), (mo, .inl (y 4, 2, .inr (.inr (.inr (.inr (outr m1 m2)))))), (m1, .inl (y 0, nb, .inl c1)), (m2, .inl (y 0, nb, .inl c2)), (m_p, .inl (y 1, 121, .inl mpa)), (m_w, .inl (y 1, 121, .inl mwe)), (m_l, .inl (y 3, 121, .inl mli)), (m_v, .inl (y 2, 121, .inr (.inl mvo))), (m_r, .inl (y 0, 32, .inl mro)), (m_q, .inl (y 1, 260, .inl mpl))]) hfix (cX9_liveVolume_ok l D y am mo m1 m2 m_p m_w m_l m_v m_r m_q nb th mb us me rc dn lf mw mf ms mu ml mz c1 c2 mpa mwe mli mvo mro mpl _ hc_15) (cwV 0 hts gX9_total_X9_liveVolume rfl rfl rfl (by decide +kernel) ⟨Nat.le_of_ble_eq_true rfl, Nat.le_of_ble_eq_true rfl⟩) E hP hD hS [0, 1, 2, 3, 4, 5, 6, 7, 8, 9] [] [0, 1, 2, 3, 4, 5, 6, 7, 8, 9] rfl rfl rfl rfl (by decide) rfl rfl 0 8 rfl rfl rfl hl.1 rfl (Nat.le_of_ble_eq_true rfl) dX9_total_55 ⟨Nat.zero_le _, Nat.zero_le _⟩ (fun H locs hP hD hS => ?_)
          refine W.eq (g2 := F0 m 58 ls [.long r_14]) rfl ?_
          refine lv_aload_n hx hb dX9_total_58 rfl (lv_at hl 0 rfl) ?_
          refine va_get (D := D) (ci := 8) (v := .long ml) (C := RX9) (T := TX9) (N := 20) hx hb hts iX9 hown hK hP 0 rfl rfl 16 (by decide) (hts (.fieldLink RX9 118 "SampleTrackerModel" "lost" "J") (by decide +kernel)) (fun _ h9 => h9) rfl dX9_total_59 ?_
          refine lv_ladd hx hb dX9_total_62 ?_
          obtain rfl := Option.some.inj hf
          exact W.lret hx hb hr (fun t ht hW => ⟨⟨(), rfl, by rw [ht]; exact hP, hD⟩, hS.F ht⟩) hS.2.2 dX9_total_63
        · have hf := ifn hf c_13
          by_cases c_16 : p1 = (3 : Int32)
          · have hf := ifp hf c_16
            refine lv_tableIn (off := 52) (tgt := 64) hx hb dX9_total_12 (by rw [c_16]; decide) (by rw [c_16]; decide) (by rw [c_16]; decide) (by decide) ?_
            refine lv_aload_n hx hb dX9_total_64 rfl (lv_at hl 0 rfl) ?_
            refine lv_iload_n hx hb dX9_total_65 rfl (lv_at hl 2 rfl) ?_
            obtain ⟨r_17, hc_18, hf⟩ := obd hf
            refine ct_V (As := [.int p2]) (rest := []) (wr := []) (wn := [(am, .inr (8, [.int th, .int mb, .ref mo, .int us, .int me, .int rc, .int (zb dn), .int lf, .int mw, .int mf, .ref m_p, .ref m_w, .ref m_l, .ref m_v, .int ms, .int mu, .long ml, .ref m_r, .int mz, .ref m_q])), (mo, .inl (y 4, 2, .inr (.inr (.inr (.inr (outr m1 m2)))))), (m1, .inl (y 0, nb, .inl c1)), (m2, .inl (y 0, nb, .inl c2)), (m_p, .inl (y 1, 121, .inl mpa)), (m_w, .inl (y 1, 121, .inl mwe)), (m_l, .inl (y 3, 121, .inl mli)), (m_v, .inl (y 2, 121, .inr (.inl mvo))), (m_r, .inl (y 0, 32, .inl mro)), (m_q, .inl (y 1, 260, .inl mpl))]) hfix (cX9_isHere_ok l D y am mo m1 m2 m_p m_w m_l m_v m_r m_q nb th mb us me rc dn lf mw mf ms mu ml mz c1 c2 mpa mwe mli mvo mro mpl p2 _ hc_18) (cwV 1 hts gX9_total_X9_isHere rfl rfl rfl (by decide +kernel) ⟨Nat.le_of_ble_eq_true rfl, Nat.le_of_ble_eq_true rfl⟩) E hP hD hS [0, 1, 2, 3, 4, 5, 6, 7, 8, 9] [] [0, 1, 2, 3, 4, 5, 6, 7, 8, 9] rfl rfl rfl rfl (by decide) rfl rfl 0 8 rfl rfl rfl hl.1 rfl (Nat.le_of_ble_eq_true rfl) dX9_total_66 ⟨Nat.zero_le _, Nat.zero_le _⟩ (fun H locs hP hD hS => ?_)
            refine W.eq (g2 := F0 m 69 ls [.int (zb r_17)]) rfl ?_
            refine lv_if_ne (tgt := 76) hx hb dX9_total_69 (by decide) (fun c_19 => ?_) (fun c_19 => ?_)
            · have hf := ifn hf c_19
              refine lv_lconst (v := (0 : Int64)) hx hb dX9_total_76 (by decide) ?_
              refine lv_lstore_n (lv' := [(3, .long (0 : Int64)), (0, .ref am), (1, .int p1), (2, .int p2)]) hx hb dX9_total_77 rfl hl (by decide) rfl (fun ls hl => ?_)
              refine lv_iconst (v := (1 : Int32)) hx hb dX9_total_78 (by decide) ?_
              refine lv_istore (lv' := [(5, .int (1 : Int32)), (3, .long (0 : Int64)), (0, .ref am), (1, .int p1), (2, .int p2)]) hx hb dX9_total_79 hl (by decide) rfl (fun ls hl => ?_)
              exact hL81 FU (0 : Int64) (1 : Int32) _ _ _ hf hP hD hS (lv_sub hl [2, 3, 4, 1, 0] rfl)
            · have hf := ifp hf c_19
              refine lv_ldc2 (v := (-1 : Int64)) hx hb hown (hts (.constantLong RX9 171 (-1 : Int64)) (by decide +kernel)) dX9_total_72 ?_
              obtain rfl := Option.some.inj hf
              exact W.lret hx hb hr (fun t ht hW => ⟨⟨(), rfl, by rw [ht]; exact hP, hD⟩, hS.F ht⟩) hS.2.2 dX9_total_75
          · have hf := ifn hf c_16
            have hneg : p1.toInt < 0 ∨ 3 < p1.toInt := by
              have := lv_neT c_9 (a := 0) (by decide)
              have := lv_neT c_12 (a := 1) (by decide)
              have := lv_neT c_13 (a := 2) (by decide)
              have := lv_neT c_16 (a := 3) (by decide)
              omega
            refine lv_tableOut (tgt := 145) hx hb dX9_total_12 hneg (by decide) ?_
            refine lv_ldc2 (v := (-1 : Int64)) hx hb hown (hts (.constantLong RX9 171 (-1 : Int64)) (by decide +kernel)) dX9_total_145 ?_
            obtain rfl := Option.some.inj hf
            exact W.lret hx hb hr (fun t ht hW => ⟨⟨(), rfl, by rw [ht]; exact hP, hD⟩, hS.F ht⟩) hS.2.2 dX9_total_148
  · have hf := ifn hf c_8
    refine lv_ldc2 (v := (-1 : Int64)) hx hb hown (hts (.constantLong RX9 171 (-1 : Int64)) (by decide +kernel)) dX9_total_7 ?_
    obtain rfl := Option.some.inj hf
    exact W.lret hx hb hr (fun t ht hW => ⟨⟨(), rfl, by rw [ht]; exact hP, hD⟩, hS.F ht⟩) hS.2.2 dX9_total_10

def fX9_count_127 (ms : Int32) (mli : Nat → Int32) : Nat → Int32 → Int32 → Option (Int32)
  | 0, _, _ => none
  | n127 + 1, v127_0, v127_1 => (if ms < v127_1 then some v127_0 else (if (ib v127_1 121) = true then (if (mli v127_1.toNatClampNeg) = 0 then fX9_count_127 ms mli n127 (v127_0 + (0 : Int32)) (v127_1 + (1 : Int32)) else fX9_count_127 ms mli n127 (v127_0 + (1 : Int32)) (v127_1 + (1 : Int32))) else none))

def fX9_count (nb : Nat) (mb : Int32) (us : Int32) (me : Int32) (dn : Bool) (mw : Int32) (mf : Int32) (ms : Int32) (mu : Int32) (c1 : Nat → Int32) (c2 : Nat → Int32) (mli : Nat → Int32) (p1 : Int32) : Option (Int32) := (if (zb dn) = 0 then (if p1 = (0 : Int32) then some (1 : Int32) else (if p1 = (1 : Int32) then some mb else (if p1 = (2 : Int32) then some mw else (if p1 = (3 : Int32) then some mf else (if p1 = (4 : Int32) then some us else (if p1 = (5 : Int32) then ((fX9_generation nb c1 c2 us).bind fun r_12 => some (r_12.toInt32)) else (if p1 = (6 : Int32) then some me else (if p1 = (7 : Int32) then some ms else (if p1 = (8 : Int32) then fX9_count_127 ms mli FU (0 : Int32) (1 : Int32) else (if p1 = (9 : Int32) then some mu else some (-1 : Int32))))))))))) else (if p1 ≤ (3 : Int32) then (if p1 = (0 : Int32) then some (0 : Int32) else (if p1 = (1 : Int32) then some mb else (if p1 = (2 : Int32) then some mw else (if p1 = (3 : Int32) then some mf else (if p1 = (4 : Int32) then some us else (if p1 = (5 : Int32) then ((fX9_generation nb c1 c2 us).bind fun r_26 => some (r_26.toInt32)) else (if p1 = (6 : Int32) then some me else (if p1 = (7 : Int32) then some ms else (if p1 = (8 : Int32) then fX9_count_127 ms mli FU (0 : Int32) (1 : Int32) else (if p1 = (9 : Int32) then some mu else some (-1 : Int32))))))))))) else some (-1 : Int32)))

set_option maxHeartbeats 4000000 in
set_option maxRecDepth 100000 in
theorem cX9_count_ok (l : Launch) (D : va_G) (y : Nat → ClassId) (am : Nat) (mo : Nat) (m1 : Nat) (m2 : Nat) (m_p : Nat) (m_w : Nat) (m_l : Nat) (m_v : Nat) (m_r : Nat) (m_q : Nat) (nb : Nat) (th : Int32) (mb : Int32) (us : Int32) (me : Int32) (rc : Int32) (dn : Bool) (lf : Int32) (mw : Int32) (mf : Int32) (ms : Int32) (mu : Int32) (ml : Int64) (mz : Int32) (c1 : Nat → Int32) (c2 : Nat → Int32) (mpa : Nat → Int32) (mwe : Nat → Int32) (mli : Nat → Int32) (mvo : Nat → Int64) (mro : Nat → Int32) (mpl : Nat → Int32) (p1 : Int32) (res : Int32) (hf : fX9_count nb mb us me dn mw mf ms mu c1 c2 mli p1 = some res) : CT l D y yX9_count wsX9_count ({ frames := 2, cells := 0, slots := 0, locals := 46 } : Room) [.ref am, .int p1] [(am, .inr (8, [.int th, .int mb, .ref mo, .int us, .int me, .int rc, .int (zb dn), .int lf, .int mw, .int mf, .ref m_p, .ref m_w, .ref m_l, .ref m_v, .int ms, .int mu, .long ml, .ref m_r, .int mz, .ref m_q])), (mo, .inl (y 4, 2, .inr (.inr (.inr (.inr (outr m1 m2)))))), (m1, .inl (y 0, nb, .inl c1)), (m2, .inl (y 0, nb, .inl c2)), (m_p, .inl (y 1, 121, .inl mpa)), (m_w, .inl (y 1, 121, .inl mwe)), (m_l, .inl (y 3, 121, .inl mli)), (m_v, .inl (y 2, 121, .inr (.inl mvo))), (m_r, .inl (y 0, 32, .inl mro)), (m_q, .inl (y 1, 260, .inl mpl))] (some (.int res)) [(am, .inr (8, [.int th, .int mb, .ref mo, .int us, .int me, .int rc, .int (zb dn), .int lf, .int mw, .int mf, .ref m_p, .ref m_w, .ref m_l, .ref m_v, .int ms, .int mu, .long ml, .ref m_r, .int mz, .ref m_q])), (mo, .inl (y 4, 2, .inr (.inr (.inr (.inr (outr m1 m2)))))), (m1, .inl (y 0, nb, .inl c1)), (m2, .inl (y 0, nb, .inl c2)), (m_p, .inl (y 1, 121, .inl mpa)), (m_w, .inl (y 1, 121, .inl mwe)), (m_l, .inl (y 3, 121, .inl mli)), (m_v, .inl (y 2, 121, .inr (.inl mvo))), (m_r, .inl (y 0, 32, .inl mro)), (m_q, .inl (y 1, 260, .inl mpl))] := by
  intro sz
  refine Met.ofW (cc := cX9_count) (maxL := 4) (ret := (some .int)) (by decide) rfl ?_
  intro p e s m args below meth c s₁ B hml hv
  obtain ⟨rfl, hsz, hP, hK, hD0, hst, hno⟩ := hv
  have hx := B.exec
  have hb := B.bytes
  have hr := B.returns
  have hts := atoms_spec (ws := wsX9_count) B.pre
  have hown : s.vm.findClass RX9 = some m.cls := findClass_of_methodNamed B.named
  have hlocks := B.notSynchronized
  subst hsz
  have hD := hD0.self (sz := s.heap.size)
  generalize hAe : va_A [(am, .inr (8, [.int th, .int mb, .ref mo, .int us, .int me, .int rc, .int (zb dn), .int lf, .int mw, .int mf, .ref m_p, .ref m_w, .ref m_l, .ref m_v, .int ms, .int mu, .long ml, .ref m_r, .int mz, .ref m_q])), (mo, .inl (y 4, 2, .inr (.inr (.inr (.inr (outr m1 m2)))))), (m1, .inl (y 0, nb, .inl c1)), (m2, .inl (y 0, nb, .inl c2)), (m_p, .inl (y 1, 121, .inl mpa)), (m_w, .inl (y 1, 121, .inl mwe)), (m_l, .inl (y 3, 121, .inl mli)), (m_v, .inl (y 2, 121, .inr (.inl mvo))), (m_r, .inl (y 0, 32, .inl mro)), (m_q, .inl (y 1, 260, .inl mpl))] s.heap.size = A at hD hst ⊢
  have hA : ∀ q : Nat, s.heap.size ≤ q → A q := fun q h => by rw [← hAe]; exact Or.inr h
  have hS : va_S A s.heap s.heap [] := va_S.rf
  have E : Ev D y A s := ⟨hK, hst, hno, hA⟩
  have hfix : CallFix p m c cX9_count 4 s _ wsX9_count RX9 := ⟨hx, hb, hml, hown, hts⟩
  have hP : va_P D vwCl [(am, .inr (8, [.int th, .int mb, .ref mo, .int us, .int me, .int rc, .int (zb dn), .int lf, .int mw, .int mf, .ref m_p, .ref m_w, .ref m_l, .ref m_v, .int ms, .int mu, .long ml, .ref m_r, .int mz, .ref m_q])), (mo, .inl (y 4, 2, .inr (.inr (.inr (.inr (outr m1 m2)))))), (m1, .inl (y 0, nb, .inl c1)), (m2, .inl (y 0, nb, .inl c2)), (m_p, .inl (y 1, 121, .inl mpa)), (m_w, .inl (y 1, 121, .inl mwe)), (m_l, .inl (y 3, 121, .inl mli)), (m_v, .inl (y 2, 121, .inr (.inl mvo))), (m_r, .inl (y 0, 32, .inl mro)), (m_q, .inl (y 1, 260, .inl mpl))] s.heap := hP
  have iX9 : ∀ w ∈ wsX90, w ∈ wsX9_count := by decide +kernel
  have hl := lv_entry ([.ref am, .int p1]) (n := 4) (Nat.le_of_ble_eq_true rfl)
  rw [lg_entry_eq]
  generalize (lg_sl ([.ref am, .int p1]) ++ List.replicate (4 - (lg_sl ([.ref am, .int p1])).length) Slot.unset).toArray = ls at hl ⊢
  have hl : lv_has ls 4 [(0, .ref am), (1, .int p1)] := hl
  have hL127 : ∀ (n127 : Nat) (v127_0 : Int32) (v127_1 : Int32) (H : Heap) (locs : List Loc) (ls : Array Slot), fX9_count_127 ms mli n127 v127_0 v127_1 = some res → va_P D vwCl [(am, .inr (8, [.int th, .int mb, .ref mo, .int us, .int me, .int rc, .int (zb dn), .int lf, .int mw, .int mf, .ref m_p, .ref m_w, .ref m_l, .ref m_v, .int ms, .int mu, .long ml, .ref m_r, .int mz, .ref m_q])), (mo, .inl (y 4, 2, .inr (.inr (.inr (.inr (outr m1 m2)))))), (m1, .inl (y 0, nb, .inl c1)), (m2, .inl (y 0, nb, .inl c2)), (m_p, .inl (y 1, 121, .inl mpa)), (m_w, .inl (y 1, 121, .inl mwe)), (m_l, .inl (y 3, 121, .inl mli)), (m_v, .inl (y 2, 121, .inr (.inl mvo))), (m_r, .inl (y 0, 32, .inl mro)), (m_q, .inl (y 1, 260, .inl mpl))] H → va_D A [(am, .inr (8, [.int th, .int mb, .ref mo, .int us, .int me, .int rc, .int (zb dn), .int lf, .int mw, .int mf, .ref m_p, .ref m_w, .ref m_l, .ref m_v, .int ms, .int mu, .long ml, .ref m_r, .int mz, .ref m_q])), (mo, .inl (y 4, 2, .inr (.inr (.inr (.inr (outr m1 m2)))))), (m1, .inl (y 0, nb, .inl c1)), (m2, .inl (y 0, nb, .inl c2)), (m_p, .inl (y 1, 121, .inl mpa)), (m_w, .inl (y 1, 121, .inl mwe)), (m_l, .inl (y 3, 121, .inl mli)), (m_v, .inl (y 2, 121, .inr (.inl mvo))), (m_r, .inl (y 0, 32, .inl mro)), (m_q, .inl (y 1, 260, .inl mpl))] → va_S A s.heap H locs → lv_has ls 4 [(0, .ref am), (1, .int p1), (2, .int v127_0), (3, .int v127_1)] → W p l e (headSpec wsX9_count ({ frames := 2, cells := 0, slots := 0, locals := 46 } : Room)).room s m ([.ref am, .int p1] : List Value).toArray below meth c H locs 0 0 (MQ below (Po D (fun _ : Unit => some (.int res)) (fun _ => [(am, .inr (8, [.int th, .int mb, .ref mo, .int us, .int me, .int rc, .int (zb dn), .int lf, .int mw, .int mf, .ref m_p, .ref m_w, .ref m_l, .ref m_v, .int ms, .int mu, .long ml, .ref m_r, .int mz, .ref m_q])), (mo, .inl (y 4, 2, .inr (.inr (.inr (.inr (outr m1 m2)))))), (m1, .inl (y 0, nb, .inl c1)), (m2, .inl (y 0, nb, .inl c2)), (m_p, .inl (y 1, 121, .inl mpa)), (m_w, .inl (y 1, 121, .inl mwe)), (m_l, .inl (y 3, 121, .inl mli)), (m_v, .inl (y 2, 121, .inr (.inl mvo))), (m_r, .inl (y 0, 32, .inl mro)), (m_q, .inl (y 1, 260, .inl mpl))]) A) ([.ref am, .int p1] : List Value).toArray s 0 0 A) (F0 m 127 ls []) := by
    intro n127
    induction n127 with
    | zero =>
      intro v127_0 v127_1 H locs ls hf
      exact absurd (show (none : Option (Int32)) = some res from hf) (fun q => by cases q)
    | succ n127 ih127 =>
      intro v127_0 v127_1 H locs ls hf hP hD hS hl
      unfold fX9_count_127 at hf
      refine lv_iload_n hx hb dX9_count_127 rfl (lv_at hl 3 rfl) ?_
      refine lv_aload_n hx hb dX9_count_128 rfl (lv_at hl 0 rfl) ?_
      refine va_get (D := D) (ci := 8) (v := .int ms) (C := RX9) (T := TX9) (N := 20) hx hb hts iX9 hown hK hP 0 rfl rfl 14 (by decide) (hts (.fieldLink RX9 115 "SampleTrackerModel" "samples" "I") (by decide +kernel)) (fun _ h9 => h9) rfl dX9_count_129 ?_
      refine lv_icmp_gt (tgt := 158) hx hb dX9_count_132 (by decide) (fun c_1 => ?_) (fun c_1 => ?_)
      · have hf := ifp hf c_1
        refine lv_iload_n hx hb dX9_count_158 rfl (lv_at hl 2 rfl) ?_
        obtain rfl := Option.some.inj hf
        exact W.iret hx hb hr (fun t ht hW => ⟨⟨(), rfl, by rw [ht]; exact hP, hD⟩, hS.F ht⟩) hS.2.2 dX9_count_159
      · have hf := ifn hf c_1
        refine lv_iload_n hx hb dX9_count_135 rfl (lv_at hl 2 rfl) ?_
        refine lv_aload_n hx hb dX9_count_136 rfl (lv_at hl 0 rfl) ?_
        refine va_get (D := D) (ci := 8) (v := .ref m_l) (C := RX9) (T := TX9) (N := 20) hx hb hts iX9 hown hK hP 0 rfl rfl 12 (by decide) (hts (.fieldLink RX9 20 "SampleTrackerModel" "live" "[Z") (by decide +kernel)) (fun _ h9 => h9) rfl dX9_count_137 ?_
        refine lv_iload_n hx hb dX9_count_140 rfl (lv_at hl 3 rfl) ?_
        obtain ⟨h_2, hf⟩ := ibk hf
        refine va_zald hx hb hK hP 6 3 rfl rfl (ib_in h_2) dX9_count_141 ?_
        refine lv_if_eq (tgt := 149) hx hb dX9_count_142 (by decide) (fun c_3 => ?_) (fun c_3 => ?_)
        · have hf := ifp hf c_3
          refine lv_iconst (v := (0 : Int32)) hx hb dX9_count_149 (by decide) ?_
          refine lv_iadd hx hb dX9_count_150 ?_
          refine lv_istore_n (lv' := [(2, .int (v127_0 + (0 : Int32))), (0, .ref am), (1, .int p1), (3, .int v127_1)]) hx hb dX9_count_151 rfl hl (by decide) rfl (fun ls hl => ?_)
          refine lv_iinc (v := (v127_1 + (1 : Int32))) (lv' := [(3, .int (v127_1 + (1 : Int32))), (2, .int (v127_0 + (0 : Int32))), (0, .ref am), (1, .int p1)]) hx hb dX9_count_152 hl (k := 3) rfl rfl (by decide) rfl (fun ls hl => ?_)
          refine lv_goto (tgt := 127) hx hb dX9_count_155 (by decide) ?_
          exact ih127 (v127_0 + (0 : Int32)) (v127_1 + (1 : Int32)) _ _ _ hf hP hD hS (lv_sub hl [2, 3, 1, 0] rfl)
        · have hf := ifn hf c_3
          refine lv_iconst (v := (1 : Int32)) hx hb dX9_count_145 (by decide) ?_
          refine lv_goto (tgt := 150) hx hb dX9_count_146 (by decide) ?_
          refine lv_iadd hx hb dX9_count_150 ?_
          refine lv_istore_n (lv' := [(2, .int (v127_0 + (1 : Int32))), (0, .ref am), (1, .int p1), (3, .int v127_1)]) hx hb dX9_count_151 rfl hl (by decide) rfl (fun ls hl => ?_)
          refine lv_iinc (v := (v127_1 + (1 : Int32))) (lv' := [(3, .int (v127_1 + (1 : Int32))), (2, .int (v127_0 + (1 : Int32))), (0, .ref am), (1, .int p1)]) hx hb dX9_count_152 hl (k := 3) rfl rfl (by decide) rfl (fun ls hl => ?_)
          refine lv_goto (tgt := 127) hx hb dX9_count_155 (by decide) ?_
          exact ih127 (v127_0 + (1 : Int32)) (v127_1 + (1 : Int32)) _ _ _ hf hP hD hS (lv_sub hl [2, 3, 1, 0] rfl)
  unfold fX9_count at hf
  refine lv_iconst (v := (0 : Int32)) hx hb dX9_count_0 (by decide) ?_
  refine lv_istore_n (lv' := [(2, .int (0 : Int32)), (0, .ref am), (1, .int p1)]) hx hb dX9_count_1 rfl hl (by decide) rfl (fun ls hl => ?_)
  refine lv_aload_n hx hb dX9_count_2 rfl (lv_at hl 1 rfl) ?_
  refine va_get (D := D) (ci := 8) (v := .int (zb dn)) (C := RX9) (T := TX9) (N := 20) hx hb hts iX9 hown hK hP 0 rfl rfl 6 (by decide) (hts (.fieldLink RX9 77 "SampleTrackerModel" "isDown" "Z") (by decide +kernel)) (fun _ h9 => h9) rfl dX9_count_3 ?_
  refine lv_if_eq (tgt := 16) hx hb dX9_count_6 (by decide) (fun c_4 => ?_) (fun c_4 => ?_)
  · have hf := ifp hf c_4
    refine lv_iload_n hx hb dX9_count_16 rfl (lv_at hl 2 rfl) ?_
    by_cases c_5 : p1 = (0 : Int32)
    · have hf := ifp hf c_5
      refine lv_tableIn (off := 55) (tgt := 72) hx hb dX9_count_17 (by rw [c_5]; decide) (by rw [c_5]; decide) (by rw [c_5]; decide) (by decide) ?_
      refine lv_aload_n hx hb dX9_count_72 rfl (lv_at hl 1 rfl) ?_
      refine va_get (D := D) (ci := 8) (v := .int (zb dn)) (C := RX9) (T := TX9) (N := 20) hx hb hts iX9 hown hK hP 0 rfl rfl 6 (by decide) (hts (.fieldLink RX9 77 "SampleTrackerModel" "isDown" "Z") (by decide +kernel)) (fun _ h9 => h9) rfl dX9_count_73 ?_
      refine lv_if_eq (tgt := 83) hx hb dX9_count_76 (by decide) (fun c_6 => ?_) (fun c_6 => absurd c_4 c_6)
      refine lv_iconst (v := (1 : Int32)) hx hb dX9_count_83 (by decide) ?_
      obtain rfl := Option.some.inj hf
      exact W.iret hx hb hr (fun t ht hW => ⟨⟨(), rfl, by rw [ht]; exact hP, hD⟩, hS.F ht⟩) hS.2.2 dX9_count_84
    · have hf := ifn hf c_5
      by_cases c_7 : p1 = (1 : Int32)
      · have hf := ifp hf c_7
        refine lv_tableIn (off := 68) (tgt := 85) hx hb dX9_count_17 (by rw [c_7]; decide) (by rw [c_7]; decide) (by rw [c_7]; decide) (by decide) ?_
        refine lv_aload_n hx hb dX9_count_85 rfl (lv_at hl 1 rfl) ?_
        refine va_get (D := D) (ci := 8) (v := .int mb) (C := RX9) (T := TX9) (N := 20) hx hb hts iX9 hown hK hP 0 rfl rfl 1 (by decide) (hts (.fieldLink RX9 35 "SampleTrackerModel" "bytes" "I") (by decide +kernel)) (fun _ h9 => h9) rfl dX9_count_86 ?_
        obtain rfl := Option.some.inj hf
        exact W.iret hx hb hr (fun t ht hW => ⟨⟨(), rfl, by rw [ht]; exact hP, hD⟩, hS.F ht⟩) hS.2.2 dX9_count_89
      · have hf := ifn hf c_7
        by_cases c_8 : p1 = (2 : Int32)
        · have hf := ifp hf c_8
          refine lv_tableIn (off := 73) (tgt := 90) hx hb dX9_count_17 (by rw [c_8]; decide) (by rw [c_8]; decide) (by rw [c_8]; decide) (by decide) ?_
          refine lv_aload_n hx hb dX9_count_90 rfl (lv_at hl 1 rfl) ?_
          refine va_get (D := D) (ci := 8) (v := .int mw) (C := RX9) (T := TX9) (N := 20) hx hb hts iX9 hown hK hP 0 rfl rfl 8 (by decide) (hts (.fieldLink RX9 74 "SampleTrackerModel" "written" "I") (by decide +kernel)) (fun _ h9 => h9) rfl dX9_count_91 ?_
          obtain rfl := Option.some.inj hf
          exact W.iret hx hb hr (fun t ht hW => ⟨⟨(), rfl, by rw [ht]; exact hP, hD⟩, hS.F ht⟩) hS.2.2 dX9_count_94
        · have hf := ifn hf c_8
          by_cases c_9 : p1 = (3 : Int32)
          · have hf := ifp hf c_9
            refine lv_tableIn (off := 78) (tgt := 95) hx hb dX9_count_17 (by rw [c_9]; decide) (by rw [c_9]; decide) (by rw [c_9]; decide) (by decide) ?_
            refine lv_aload_n hx hb dX9_count_95 rfl (lv_at hl 1 rfl) ?_
            refine va_get (D := D) (ci := 8) (v := .int mf) (C := RX9) (T := TX9) (N := 20) hx hb hts iX9 hown hK hP 0 rfl rfl 9 (by decide) (hts (.fieldLink RX9 81 "SampleTrackerModel" "failures" "I") (by decide +kernel)) (fun _ h9 => h9) rfl dX9_count_96 ?_
            obtain rfl := Option.some.inj hf
            exact W.iret hx hb hr (fun t ht hW => ⟨⟨(), rfl, by rw [ht]; exact hP, hD⟩, hS.F ht⟩) hS.2.2 dX9_count_99
          · have hf := ifn hf c_9
            by_cases c_10 : p1 = (4 : Int32)
            · have hf := ifp hf c_10
              refine lv_tableIn (off := 83) (tgt := 100) hx hb dX9_count_17 (by rw [c_10]; decide) (by rw [c_10]; decide) (by rw [c_10]; decide) (by decide) ?_
              refine lv_aload_n hx hb dX9_count_100 rfl (lv_at hl 1 rfl) ?_
              refine va_get (D := D) (ci := 8) (v := .int us) (C := RX9) (T := TX9) (N := 20) hx hb hts iX9 hown hK hP 0 rfl rfl 3 (by decide) (hts (.fieldLink RX9 100 "SampleTrackerModel" "use" "I") (by decide +kernel)) (fun _ h9 => h9) rfl dX9_count_101 ?_
              obtain rfl := Option.some.inj hf
              exact W.iret hx hb hr (fun t ht hW => ⟨⟨(), rfl, by rw [ht]; exact hP, hD⟩, hS.F ht⟩) hS.2.2 dX9_count_104
            · have hf := ifn hf c_10
              by_cases c_11 : p1 = (5 : Int32)
              · have hf := ifp hf c_11
                refine lv_tableIn (off := 88) (tgt := 105) hx hb dX9_count_17 (by rw [c_11]; decide) (by rw [c_11]; decide) (by rw [c_11]; decide) (by decide) ?_
                refine lv_aload_n hx hb dX9_count_105 rfl (lv_at hl 1 rfl) ?_
                refine lv_aload_n hx hb dX9_count_106 rfl (lv_at hl 1 rfl) ?_
                refine va_get (D := D) (ci := 8) (v := .int us) (C := RX9) (T := TX9) (N := 20) hx hb hts iX9 hown hK hP 0 rfl rfl 3 (by decide) (hts (.fieldLink RX9 100 "SampleTrackerModel" "use" "I") (by decide +kernel)) (fun _ h9 => h9) rfl dX9_count_107 ?_
                obtain ⟨r_12, hc_13, hf⟩ := obd hf
                refine ct_V (As := [.int us]) (rest := []) (wr := []) (wn := [(am, .inr (8, [.int th, .int mb, .ref mo, .int us, .int me, .int rc, .int (zb dn), .int lf, .int mw, .int mf, .ref m_p, .ref m_w, .ref m_l, .ref m_v, .int ms, .int mu, .long ml, .ref m_r, .int mz, .ref m_q])), (mo, .inl (y 4, 2, .inr (.inr (.inr (.inr (outr m1 m2)))))), (m1, .inl (y 0, nb, .inl c1)), (m2, .inl (y 0, nb, .inl c2)), (m_p, .inl (y 1, 121, .inl mpa)), (m_w, .inl (y 1, 121, .inl mwe)), (m_l, .inl (y 3, 121, .inl mli)), (m_v, .inl (y 2, 121, .inr (.inl mvo))), (m_r, .inl (y 0, 32, .inl mro)), (m_q, .inl (y 1, 260, .inl mpl))]) hfix (cX9_generation_ok l D y am mo m1 m2 m_p m_w m_l m_v m_r m_q nb th mb us me rc dn lf mw mf ms mu ml mz c1 c2 mpa mwe mli mvo mro mpl us _ hc_13) (cwV 1 hts gX9_count_X9_generation rfl rfl rfl (by decide +kernel) ⟨Nat.le_of_ble_eq_true rfl, Nat.le_of_ble_eq_true rfl⟩) E hP hD hS [0, 1, 2, 3, 4, 5, 6, 7, 8, 9] [] [0, 1, 2, 3, 4, 5, 6, 7, 8, 9] rfl rfl rfl rfl (by decide) rfl rfl 0 8 rfl rfl rfl hl.1 rfl (Nat.le_of_ble_eq_true rfl) dX9_count_110 ⟨Nat.zero_le _, Nat.zero_le _⟩ (fun H locs hP hD hS => ?_)
                refine W.eq (g2 := F0 m 113 ls [.long r_12]) rfl ?_
                refine lv_l2i (v := (r_12.toInt32)) hx hb dX9_count_113 rfl ?_
                obtain rfl := Option.some.inj hf
                exact W.iret hx hb hr (fun t ht hW => ⟨⟨(), rfl, by rw [ht]; exact hP, hD⟩, hS.F ht⟩) hS.2.2 dX9_count_114
              · have hf := ifn hf c_11
                by_cases c_14 : p1 = (6 : Int32)
                · have hf := ifp hf c_14
                  refine lv_tableIn (off := 98) (tgt := 115) hx hb dX9_count_17 (by rw [c_14]; decide) (by rw [c_14]; decide) (by rw [c_14]; decide) (by decide) ?_
                  refine lv_aload_n hx hb dX9_count_115 rfl (lv_at hl 1 rfl) ?_
                  refine va_get (D := D) (ci := 8) (v := .int me) (C := RX9) (T := TX9) (N := 20) hx hb hts iX9 hown hK hP 0 rfl rfl 4 (by decide) (hts (.fieldLink RX9 103 "SampleTrackerModel" "end" "I") (by decide +kernel)) (fun _ h9 => h9) rfl dX9_count_116 ?_
                  obtain rfl := Option.some.inj hf
                  exact W.iret hx hb hr (fun t ht hW => ⟨⟨(), rfl, by rw [ht]; exact hP, hD⟩, hS.F ht⟩) hS.2.2 dX9_count_119
                · have hf := ifn hf c_14
                  by_cases c_15 : p1 = (7 : Int32)
                  · have hf := ifp hf c_15
                    refine lv_tableIn (off := 103) (tgt := 120) hx hb dX9_count_17 (by rw [c_15]; decide) (by rw [c_15]; decide) (by rw [c_15]; decide) (by decide) ?_
                    refine lv_aload_n hx hb dX9_count_120 rfl (lv_at hl 1 rfl) ?_
                    refine va_get (D := D) (ci := 8) (v := .int ms) (C := RX9) (T := TX9) (N := 20) hx hb hts iX9 hown hK hP 0 rfl rfl 14 (by decide) (hts (.fieldLink RX9 115 "SampleTrackerModel" "samples" "I") (by decide +kernel)) (fun _ h9 => h9) rfl dX9_count_121 ?_
                    obtain rfl := Option.some.inj hf
                    exact W.iret hx hb hr (fun t ht hW => ⟨⟨(), rfl, by rw [ht]; exact hP, hD⟩, hS.F ht⟩) hS.2.2 dX9_count_124
                  · have hf := ifn hf c_15
                    by_cases c_16 : p1 = (8 : Int32)
                    · have hf := ifp hf c_16
                      refine lv_tableIn (off := 108) (tgt := 125) hx hb dX9_count_17 (by rw [c_16]; decide) (by rw [c_16]; decide) (by rw [c_16]; decide) (by decide) ?_
                      refine lv_iconst (v := (1 : Int32)) hx hb dX9_count_125 (by decide) ?_
                      refine lv_istore_n (lv' := [(3, .int (1 : Int32)), (2, .int (0 : Int32)), (0, .ref am), (1, .int p1)]) hx hb dX9_count_126 rfl hl (by decide) rfl (fun ls hl => ?_)
                      exact hL127 FU (0 : Int32) (1 : Int32) _ _ _ hf hP hD hS (lv_sub hl [2, 3, 1, 0] rfl)
                    · have hf := ifn hf c_16
                      by_cases c_17 : p1 = (9 : Int32)
                      · have hf := ifp hf c_17
                        refine lv_tableIn (off := 143) (tgt := 160) hx hb dX9_count_17 (by rw [c_17]; decide) (by rw [c_17]; decide) (by rw [c_17]; decide) (by decide) ?_
                        refine lv_aload_n hx hb dX9_count_160 rfl (lv_at hl 1 rfl) ?_
                        refine va_get (D := D) (ci := 8) (v := .int mu) (C := RX9) (T := TX9) (N := 20) hx hb hts iX9 hown hK hP 0 rfl rfl 15 (by decide) (hts (.fieldLink RX9 109 "SampleTrackerModel" "undoable" "I") (by decide +kernel)) (fun _ h9 => h9) rfl dX9_count_161 ?_
                        obtain rfl := Option.some.inj hf
                        exact W.iret hx hb hr (fun t ht hW => ⟨⟨(), rfl, by rw [ht]; exact hP, hD⟩, hS.F ht⟩) hS.2.2 dX9_count_164
                      · have hf := ifn hf c_17
                        have hneg : p1.toInt < 0 ∨ 9 < p1.toInt := by
                          have := lv_neT c_5 (a := 0) (by decide)
                          have := lv_neT c_7 (a := 1) (by decide)
                          have := lv_neT c_8 (a := 2) (by decide)
                          have := lv_neT c_9 (a := 3) (by decide)
                          have := lv_neT c_10 (a := 4) (by decide)
                          have := lv_neT c_11 (a := 5) (by decide)
                          have := lv_neT c_14 (a := 6) (by decide)
                          have := lv_neT c_15 (a := 7) (by decide)
                          have := lv_neT c_16 (a := 8) (by decide)
                          have := lv_neT c_17 (a := 9) (by decide)
                          omega
                        refine lv_tableOut (tgt := 165) hx hb dX9_count_17 hneg (by decide) ?_
                        refine lv_iconst (v := (-1 : Int32)) hx hb dX9_count_165 (by decide) ?_
                        obtain rfl := Option.some.inj hf
                        exact W.iret hx hb hr (fun t ht hW => ⟨⟨(), rfl, by rw [ht]; exact hP, hD⟩, hS.F ht⟩) hS.2.2 dX9_count_166
  · have hf := ifn hf c_4
    refine lv_iload_n hx hb dX9_count_9 rfl (lv_at hl 2 rfl) ?_
    refine lv_iconst (v := (3 : Int32)) hx hb dX9_count_10 (by decide) ?_
    refine lv_icmp_le (tgt := 16) hx hb dX9_count_11 (by decide) (fun c_18 => ?_) (fun c_18 => ?_)
    · have hf := ifp hf c_18
      refine lv_iload_n hx hb dX9_count_16 rfl (lv_at hl 2 rfl) ?_
      by_cases c_19 : p1 = (0 : Int32)
      · have hf := ifp hf c_19
        refine lv_tableIn (off := 55) (tgt := 72) hx hb dX9_count_17 (by rw [c_19]; decide) (by rw [c_19]; decide) (by rw [c_19]; decide) (by decide) ?_
        refine lv_aload_n hx hb dX9_count_72 rfl (lv_at hl 1 rfl) ?_
        refine va_get (D := D) (ci := 8) (v := .int (zb dn)) (C := RX9) (T := TX9) (N := 20) hx hb hts iX9 hown hK hP 0 rfl rfl 6 (by decide) (hts (.fieldLink RX9 77 "SampleTrackerModel" "isDown" "Z") (by decide +kernel)) (fun _ h9 => h9) rfl dX9_count_73 ?_
        refine lv_if_eq (tgt := 83) hx hb dX9_count_76 (by decide) (fun c_20 => absurd c_20 c_4) (fun c_20 => ?_)
        refine lv_iconst (v := (0 : Int32)) hx hb dX9_count_79 (by decide) ?_
        refine lv_goto (tgt := 84) hx hb dX9_count_80 (by decide) ?_
        obtain rfl := Option.some.inj hf
        exact W.iret hx hb hr (fun t ht hW => ⟨⟨(), rfl, by rw [ht]; exact hP, hD⟩, hS.F ht⟩) hS.2.2 dX9_count_84
      · have hf := ifn hf c_19
        by_cases c_21 : p1 = (1 : Int32)
        · have hf := ifp hf c_21
          refine lv_tableIn (off := 68) (tgt := 85) hx hb dX9_count_17 (by rw [c_21]; decide) (by rw [c_21]; decide) (by rw [c_21]; decide) (by decide) ?_
          refine lv_aload_n hx hb dX9_count_85 rfl (lv_at hl 1 rfl) ?_
          refine va_get (D := D) (ci := 8) (v := .int mb) (C := RX9) (T := TX9) (N := 20) hx hb hts iX9 hown hK hP 0 rfl rfl 1 (by decide) (hts (.fieldLink RX9 35 "SampleTrackerModel" "bytes" "I") (by decide +kernel)) (fun _ h9 => h9) rfl dX9_count_86 ?_
          obtain rfl := Option.some.inj hf
          exact W.iret hx hb hr (fun t ht hW => ⟨⟨(), rfl, by rw [ht]; exact hP, hD⟩, hS.F ht⟩) hS.2.2 dX9_count_89
        · have hf := ifn hf c_21
          by_cases c_22 : p1 = (2 : Int32)
          · have hf := ifp hf c_22
            refine lv_tableIn (off := 73) (tgt := 90) hx hb dX9_count_17 (by rw [c_22]; decide) (by rw [c_22]; decide) (by rw [c_22]; decide) (by decide) ?_
            refine lv_aload_n hx hb dX9_count_90 rfl (lv_at hl 1 rfl) ?_
            refine va_get (D := D) (ci := 8) (v := .int mw) (C := RX9) (T := TX9) (N := 20) hx hb hts iX9 hown hK hP 0 rfl rfl 8 (by decide) (hts (.fieldLink RX9 74 "SampleTrackerModel" "written" "I") (by decide +kernel)) (fun _ h9 => h9) rfl dX9_count_91 ?_
            obtain rfl := Option.some.inj hf
            exact W.iret hx hb hr (fun t ht hW => ⟨⟨(), rfl, by rw [ht]; exact hP, hD⟩, hS.F ht⟩) hS.2.2 dX9_count_94
          · have hf := ifn hf c_22
            by_cases c_23 : p1 = (3 : Int32)
            · have hf := ifp hf c_23
              refine lv_tableIn (off := 78) (tgt := 95) hx hb dX9_count_17 (by rw [c_23]; decide) (by rw [c_23]; decide) (by rw [c_23]; decide) (by decide) ?_
              refine lv_aload_n hx hb dX9_count_95 rfl (lv_at hl 1 rfl) ?_
              refine va_get (D := D) (ci := 8) (v := .int mf) (C := RX9) (T := TX9) (N := 20) hx hb hts iX9 hown hK hP 0 rfl rfl 9 (by decide) (hts (.fieldLink RX9 81 "SampleTrackerModel" "failures" "I") (by decide +kernel)) (fun _ h9 => h9) rfl dX9_count_96 ?_
              obtain rfl := Option.some.inj hf
              exact W.iret hx hb hr (fun t ht hW => ⟨⟨(), rfl, by rw [ht]; exact hP, hD⟩, hS.F ht⟩) hS.2.2 dX9_count_99
            · have hf := ifn hf c_23
              by_cases c_24 : p1 = (4 : Int32)
              · have hf := ifp hf c_24
                refine lv_tableIn (off := 83) (tgt := 100) hx hb dX9_count_17 (by rw [c_24]; decide) (by rw [c_24]; decide) (by rw [c_24]; decide) (by decide) ?_
                refine lv_aload_n hx hb dX9_count_100 rfl (lv_at hl 1 rfl) ?_
                refine va_get (D := D) (ci := 8) (v := .int us) (C := RX9) (T := TX9) (N := 20) hx hb hts iX9 hown hK hP 0 rfl rfl 3 (by decide) (hts (.fieldLink RX9 100 "SampleTrackerModel" "use" "I") (by decide +kernel)) (fun _ h9 => h9) rfl dX9_count_101 ?_
                obtain rfl := Option.some.inj hf
                exact W.iret hx hb hr (fun t ht hW => ⟨⟨(), rfl, by rw [ht]; exact hP, hD⟩, hS.F ht⟩) hS.2.2 dX9_count_104
              · have hf := ifn hf c_24
                by_cases c_25 : p1 = (5 : Int32)
                · have hf := ifp hf c_25
                  refine lv_tableIn (off := 88) (tgt := 105) hx hb dX9_count_17 (by rw [c_25]; decide) (by rw [c_25]; decide) (by rw [c_25]; decide) (by decide) ?_
                  refine lv_aload_n hx hb dX9_count_105 rfl (lv_at hl 1 rfl) ?_
                  refine lv_aload_n hx hb dX9_count_106 rfl (lv_at hl 1 rfl) ?_
                  refine va_get (D := D) (ci := 8) (v := .int us) (C := RX9) (T := TX9) (N := 20) hx hb hts iX9 hown hK hP 0 rfl rfl 3 (by decide) (hts (.fieldLink RX9 100 "SampleTrackerModel" "use" "I") (by decide +kernel)) (fun _ h9 => h9) rfl dX9_count_107 ?_
                  obtain ⟨r_26, hc_27, hf⟩ := obd hf
                  refine ct_V (As := [.int us]) (rest := []) (wr := []) (wn := [(am, .inr (8, [.int th, .int mb, .ref mo, .int us, .int me, .int rc, .int (zb dn), .int lf, .int mw, .int mf, .ref m_p, .ref m_w, .ref m_l, .ref m_v, .int ms, .int mu, .long ml, .ref m_r, .int mz, .ref m_q])), (mo, .inl (y 4, 2, .inr (.inr (.inr (.inr (outr m1 m2)))))), (m1, .inl (y 0, nb, .inl c1)), (m2, .inl (y 0, nb, .inl c2)), (m_p, .inl (y 1, 121, .inl mpa)), (m_w, .inl (y 1, 121, .inl mwe)), (m_l, .inl (y 3, 121, .inl mli)), (m_v, .inl (y 2, 121, .inr (.inl mvo))), (m_r, .inl (y 0, 32, .inl mro)), (m_q, .inl (y 1, 260, .inl mpl))]) hfix (cX9_generation_ok l D y am mo m1 m2 m_p m_w m_l m_v m_r m_q nb th mb us me rc dn lf mw mf ms mu ml mz c1 c2 mpa mwe mli mvo mro mpl us _ hc_27) (cwV 1 hts gX9_count_X9_generation rfl rfl rfl (by decide +kernel) ⟨Nat.le_of_ble_eq_true rfl, Nat.le_of_ble_eq_true rfl⟩) E hP hD hS [0, 1, 2, 3, 4, 5, 6, 7, 8, 9] [] [0, 1, 2, 3, 4, 5, 6, 7, 8, 9] rfl rfl rfl rfl (by decide) rfl rfl 0 8 rfl rfl rfl hl.1 rfl (Nat.le_of_ble_eq_true rfl) dX9_count_110 ⟨Nat.zero_le _, Nat.zero_le _⟩ (fun H locs hP hD hS => ?_)
                  refine W.eq (g2 := F0 m 113 ls [.long r_26]) rfl ?_
                  refine lv_l2i (v := (r_26.toInt32)) hx hb dX9_count_113 rfl ?_
                  obtain rfl := Option.some.inj hf
                  exact W.iret hx hb hr (fun t ht hW => ⟨⟨(), rfl, by rw [ht]; exact hP, hD⟩, hS.F ht⟩) hS.2.2 dX9_count_114
                · have hf := ifn hf c_25
                  by_cases c_28 : p1 = (6 : Int32)
                  · have hf := ifp hf c_28
                    refine lv_tableIn (off := 98) (tgt := 115) hx hb dX9_count_17 (by rw [c_28]; decide) (by rw [c_28]; decide) (by rw [c_28]; decide) (by decide) ?_
                    refine lv_aload_n hx hb dX9_count_115 rfl (lv_at hl 1 rfl) ?_
                    refine va_get (D := D) (ci := 8) (v := .int me) (C := RX9) (T := TX9) (N := 20) hx hb hts iX9 hown hK hP 0 rfl rfl 4 (by decide) (hts (.fieldLink RX9 103 "SampleTrackerModel" "end" "I") (by decide +kernel)) (fun _ h9 => h9) rfl dX9_count_116 ?_
                    obtain rfl := Option.some.inj hf
                    exact W.iret hx hb hr (fun t ht hW => ⟨⟨(), rfl, by rw [ht]; exact hP, hD⟩, hS.F ht⟩) hS.2.2 dX9_count_119
                  · have hf := ifn hf c_28
                    by_cases c_29 : p1 = (7 : Int32)
                    · have hf := ifp hf c_29
                      refine lv_tableIn (off := 103) (tgt := 120) hx hb dX9_count_17 (by rw [c_29]; decide) (by rw [c_29]; decide) (by rw [c_29]; decide) (by decide) ?_
                      refine lv_aload_n hx hb dX9_count_120 rfl (lv_at hl 1 rfl) ?_
                      refine va_get (D := D) (ci := 8) (v := .int ms) (C := RX9) (T := TX9) (N := 20) hx hb hts iX9 hown hK hP 0 rfl rfl 14 (by decide) (hts (.fieldLink RX9 115 "SampleTrackerModel" "samples" "I") (by decide +kernel)) (fun _ h9 => h9) rfl dX9_count_121 ?_
                      obtain rfl := Option.some.inj hf
                      exact W.iret hx hb hr (fun t ht hW => ⟨⟨(), rfl, by rw [ht]; exact hP, hD⟩, hS.F ht⟩) hS.2.2 dX9_count_124
                    · have hf := ifn hf c_29
                      by_cases c_30 : p1 = (8 : Int32)
                      · have hf := ifp hf c_30
                        refine lv_tableIn (off := 108) (tgt := 125) hx hb dX9_count_17 (by rw [c_30]; decide) (by rw [c_30]; decide) (by rw [c_30]; decide) (by decide) ?_
                        refine lv_iconst (v := (1 : Int32)) hx hb dX9_count_125 (by decide) ?_
                        refine lv_istore_n (lv' := [(3, .int (1 : Int32)), (2, .int (0 : Int32)), (0, .ref am), (1, .int p1)]) hx hb dX9_count_126 rfl hl (by decide) rfl (fun ls hl => ?_)
                        exact hL127 FU (0 : Int32) (1 : Int32) _ _ _ hf hP hD hS (lv_sub hl [2, 3, 1, 0] rfl)
                      · have hf := ifn hf c_30
                        by_cases c_31 : p1 = (9 : Int32)
                        · have hf := ifp hf c_31
                          refine lv_tableIn (off := 143) (tgt := 160) hx hb dX9_count_17 (by rw [c_31]; decide) (by rw [c_31]; decide) (by rw [c_31]; decide) (by decide) ?_
                          refine lv_aload_n hx hb dX9_count_160 rfl (lv_at hl 1 rfl) ?_
                          refine va_get (D := D) (ci := 8) (v := .int mu) (C := RX9) (T := TX9) (N := 20) hx hb hts iX9 hown hK hP 0 rfl rfl 15 (by decide) (hts (.fieldLink RX9 109 "SampleTrackerModel" "undoable" "I") (by decide +kernel)) (fun _ h9 => h9) rfl dX9_count_161 ?_
                          obtain rfl := Option.some.inj hf
                          exact W.iret hx hb hr (fun t ht hW => ⟨⟨(), rfl, by rw [ht]; exact hP, hD⟩, hS.F ht⟩) hS.2.2 dX9_count_164
                        · have hf := ifn hf c_31
                          have hneg : p1.toInt < 0 ∨ 9 < p1.toInt := by
                            have := lv_neT c_19 (a := 0) (by decide)
                            have := lv_neT c_21 (a := 1) (by decide)
                            have := lv_neT c_22 (a := 2) (by decide)
                            have := lv_neT c_23 (a := 3) (by decide)
                            have := lv_neT c_24 (a := 4) (by decide)
                            have := lv_neT c_25 (a := 5) (by decide)
                            have := lv_neT c_28 (a := 6) (by decide)
                            have := lv_neT c_29 (a := 7) (by decide)
                            have := lv_neT c_30 (a := 8) (by decide)
                            have := lv_neT c_31 (a := 9) (by decide)
                            omega
                          refine lv_tableOut (tgt := 165) hx hb dX9_count_17 hneg (by decide) ?_
                          refine lv_iconst (v := (-1 : Int32)) hx hb dX9_count_165 (by decide) ?_
                          obtain rfl := Option.some.inj hf
                          exact W.iret hx hb hr (fun t ht hW => ⟨⟨(), rfl, by rw [ht]; exact hP, hD⟩, hS.F ht⟩) hS.2.2 dX9_count_166
    · have hf := ifn hf c_18
      refine lv_iconst (v := (-1 : Int32)) hx hb dX9_count_14 (by decide) ?_
      obtain rfl := Option.some.inj hf
      exact W.iret hx hb hr (fun t ht hW => ⟨⟨(), rfl, by rw [ht]; exact hP, hD⟩, hS.F ht⟩) hS.2.2 dX9_count_15

