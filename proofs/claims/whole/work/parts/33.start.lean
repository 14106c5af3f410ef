/-! 33.start: laid by wip/whole/startgen.py -/
def clp (v : Int32) : Int32 := (if v < (64 : Int32) then (64 : Int32) else (if (2048 : Int32) < v then (2048 : Int32) else v))
theorem clp_ok (v : Int32) : szOk (clp v) (clp v).toNatClampNeg := by
  have key : ∃ j : Nat, clp v = nI j ∧ 64 ≤ j ∧ j ≤ 2048 := by
    unfold clp
    by_cases h1 : v < (64 : Int32)
    · rw [if_pos h1]; exact ⟨64, by decide, by omega, by omega⟩
    · rw [if_neg h1]
      by_cases h2 : (2048 : Int32) < v
      · rw [if_pos h2]; exact ⟨2048, by decide, by omega, by omega⟩
      · rw [if_neg h2]
        have h3 : (64 : Int32) ≤ v := Int32.not_lt.mp h1
        have h4 : v ≤ (2048 : Int32) := Int32.not_lt.mp h2
        rw [Int32.le_iff_toInt_le] at h3 h4
        have e1 : (64 : Int32).toInt = 64 := by decide
        have e2 : (2048 : Int32).toInt = 2048 := by decide
        rw [e1] at h3
        rw [e2] at h4
        have h0 : ¬ v < 0 := by
          rw [Int32.lt_iff_toInt_lt]
          have e3 : (0 : Int32).toInt = 0 := by decide
          rw [e3]
          omega
        obtain ⟨j, hj, rfl⟩ := nI_of h0
        rw [nI_toInt hj] at h3 h4
        exact ⟨j, rfl, by omega, by omega⟩
  obtain ⟨j, hj, h1, h2⟩ := key
  rw [hj, nI_clamp (by omega)]
  exact ⟨rfl, h1, h2⟩
theorem clp_mx (p1 : Int32) : (if (64 : Int32) < (if p1 < (2048 : Int32) then p1 else (2048 : Int32)) then (if p1 < (2048 : Int32) then p1 else (2048 : Int32)) else (64 : Int32)) = clp p1 := by
  unfold clp
  by_cases h2 : (2048 : Int32) < p1
  · have n1 : ¬ p1 < (2048 : Int32) := Int32.lt_asymm h2
    have n2 : ¬ p1 < (64 : Int32) := fun h => by
      rw [Int32.lt_iff_toInt_lt] at h h2
      have e1 : (64 : Int32).toInt = 64 := by decide
      have e2 : (2048 : Int32).toInt = 2048 := by decide
      omega
    rw [if_neg n1, if_neg n2, if_pos h2]
    decide
  · by_cases h1 : p1 < (64 : Int32)
    · have n1 : p1 < (2048 : Int32) := by
        rw [Int32.lt_iff_toInt_lt] at h1 ⊢
        have e1 : (64 : Int32).toInt = 64 := by decide
        have e2 : (2048 : Int32).toInt = 2048 := by decide
        omega
      rw [if_pos n1, if_neg (Int32.lt_asymm h1), if_pos h1]
    · rw [if_neg h1, if_neg h2]
      by_cases h3 : p1 < (2048 : Int32)
      · rw [if_pos h3]
        by_cases h4 : (64 : Int32) < p1
        · rw [if_pos h4]
        · rw [if_neg h4]
          exact Int32.le_antisymm (Int32.not_lt.mp h1) (Int32.not_lt.mp h4)
      · rw [if_neg h3]
        have e : p1 = 2048 := Int32.le_antisymm (Int32.not_lt.mp h2) (Int32.not_lt.mp h3)
        subst e
        decide
theorem ac_of {args : Array Value} {s : State} {ty : FieldType} (h : (Cond.arrayClass ty).before args s = true) : ∃ q : ClassId, ArrOfT s q ty ∧ s.vm.findClass ("[" ++ ty.toString) = some q := by
  obtain ⟨q, k, comp, h1, h2, h3⟩ := Cond.arrayClass_spec h
  exact ⟨q, fun n z => ⟨fun k h => (by cases h), k, h2, comp, h3⟩, h1⟩
theorem ao_of {args : Array Value} {s : State} {ty : FieldType} (h : (Cond.arrayOver (.array ty)).before args s = true) : ∃ q : ClassId, ArrOfT s q (.array ty) ∧ s.vm.findClass ("[" ++ (FieldType.array ty).toString) = some q := by
  obtain ⟨comp, q, k, -, h2, h3, h1⟩ := Cond.arrayOver_specA h
  exact ⟨q, fun n z => ⟨fun k h => (by cases h), k, h2, comp, h3⟩, h1⟩
theorem nf_in : ∀ w ∈ nWf, w ∈ lw_tbl := by decide +kernel
theorem nm_in : ∀ w ∈ nWm, w ∈ lw_tbl := by decide +kernel
def cellV (L : Nat) (xs : Nat → Int32) : Int32 := if 0 < L then xs 0 else 0
set_option maxHeartbeats 4000000 in
set_option maxRecDepth 100000 in
theorem cL_cell_ok (l : Launch) (b L : Nat) (xs : Nat → Int32) (hL : L < 2 ^ 31) : Met l yL_cell wsL_cell ({ frames := 0, cells := 0, slots := 0, locals := 0 } : Room) (fun v U => v = ([.ref b, .int 0] : List Value).toArray ∧ va_X b L xs U U.heap ∧ b < U.heap.size) (QcRead (cellV L xs)) 0 0 (fun _ => False) := by
  refine Met.ofW (cc := cL_cell) (maxL := 2) (ret := some .int) (by decide) rfl ?_
  intro p e s m args below meth c s₁ B hml hv
  obtain ⟨rfl, hX, hbl⟩ := hv
  have hx := B.exec
  have hb := B.bytes
  have hr := B.returns
  have hlocks := B.notSynchronized
  have hS : va_S (fun _ => False) s.heap s.heap [] := va_S.rf
  have hbA : ¬ (fun _ : Nat => False) b := fun h => h
  have hl := lv_entry ([.ref b, .int 0]) (n := 2) (Nat.le_of_ble_eq_true rfl)
  rw [lg_entry_eq]
  generalize (lg_sl ([.ref b, .int 0]) ++ List.replicate (2 - (lg_sl ([.ref b, .int 0])).length) Slot.unset).toArray = ls at hl ⊢
  have hl : lv_has ls 2 [(0, .ref b), (1, .int 0)] := hl
  refine lv_iload_n hx hb dL_cell_0 rfl (lv_at hl 1 rfl) ?_
  refine lv_aload_n hx hb dL_cell_1 rfl (lv_at hl 0 rfl) ?_
  refine va_slen hx hb hX hbl hbA hS dL_cell_2 ?_
  refine lv_icmp_ge (tgt := 12) hx hb dL_cell_3 (by decide) (fun c_1 => ?_) (fun c_1 => ?_)
  · have h0 : ¬ 0 < L := fun h => nI_ge h hL (by rw [nI_0]; exact c_1)
    refine lv_iconst (v := (0 : Int32)) hx hb dL_cell_12 (by decide) ?_
    exact W.iret hx hb hr (fun t ht hW => ⟨by rw [cellV, if_neg h0], ht⟩) (fun q h => by cases h) dL_cell_13
  · have h0 : 0 < L := Nat.pos_of_ne_zero (fun h => c_1 (by subst h; decide))
    refine lv_aload_n hx hb dL_cell_6 rfl (lv_at hl 0 rfl) ?_
    refine lv_iload_n hx hb dL_cell_7 rfl (lv_at hl 1 rfl) ?_
    refine va_sld hx hb hX hbl hbA hS (by rw [← nI_0]; exact vp_in_nI h0 hL) dL_cell_8 ?_
    refine lv_goto (tgt := 13) hx hb dL_cell_9 (by decide) ?_
    exact W.iret hx hb hr (fun t ht hW => ⟨by rw [cellV, if_pos h0]; rfl, ht⟩) (fun q h => by cases h) dL_cell_13
/-- WHAT IS LEFT: the pure theorem on the mirrors -/
def PureAll : Prop := ∀ (k1 k2 nb L : Nat) (mb : Int32) (xs : Nat → Int32), L ≤ 2561 → szOk mb nb → ∃ res1, fX5_writeHead true false (0 : Int32) (0 : Int32) (0 : Int32) (0 : Int32) nb (fun _ => (0 : Int32)) (1 : Int32) = some res1 ∧ ∃ res2, fX9_init mb nb = some res2 ∧ fL_law k1 k2 true false (0 : Int32) (0 : Int32) (0 : Int32) k1 (0 : Int32) (-1 : Int32) nb res1.2.2.2.2.2.2.2 (fun _ => (0 : Int32)) (0 : Int32) (9 : Int32) (0 : Int32) (0 : Int32) (0 : Int32) (0 : Int64) (fun _ => (0 : Int32)) (fun _ => (0 : Int32)) (fun _ => (0 : Int64)) (fun _ => (0 : Int32)) (0 : Int32) (0 : Int64) (fun _ => (0 : Int32)) (fun _ => (0 : Int64)) (fun _ => (0 : Int32)) (fun _ => (0 : Int32)) (fun _ => (0 : Int64)) (0 : Int32) mb (0 : Int32) res2.1 res2.2.1 false (-1 : Int32) (0 : Int32) (0 : Int32) res2.2.2.1 res2.2.2.2.1 res2.2.2.2.2.1 res2.2.2.2.2.2.1 res2.2.2.2.2.2.2.1 (fun _ => (0 : Int32)) res2.2.2.2.2.2.2.2.1 res2.2.2.2.2.2.2.2.2.1 res2.2.2.2.2.2.2.2.2.2.1 res2.2.2.2.2.2.2.2.2.2.2.1 res2.2.2.2.2.2.2.2.2.2.2.2.1 res2.2.2.2.2.2.2.2.2.2.2.2.2 (1 : Int32) L xs = some true
set_option maxHeartbeats 8000000 in
set_option maxRecDepth 100000 in
theorem start_of (hpure : PureAll) {p : Program} {e : Env} {s : State} {m : MethodId} {below : List Frame} {meth : Method} {c : Code} (l : Launch) {b L : Nat} {xs : Nat → Int32} (hL : L ≤ 2561) (C0 : lw_At p s m meth c b L xs) : W p l e room_1 s m #[Value.ref b] below meth c s.heap [] 0 0 (lw_Z below #[Value.ref b] s) (entryFrame m ([Value.ref b] : List Value).toArray 4) := by
  obtain ⟨hx, hb, hr, hml, hown, hts0, hX, hbl, hlocks, hgv⟩ := id C0
  have hts := fun w h => hts0 w (wsL_law_in w h)
  have hA : ∀ q : Nat, s.heap.size ≤ q → (fun q : Nat => s.heap.size ≤ q) q := fun _ h => h
  have hbA : ¬ (fun q : Nat => s.heap.size ≤ q) b := Nat.not_le.mpr hbl
  have hnA : ∀ a : Nat, a < s.heap.size → ¬ (fun q : Nat => s.heap.size ≤ q) a := fun a h => Nat.not_le.mpr h
  obtain ⟨e0, iS0, hKn0⟩ := u_known (C := RX0) (T := TX0) (N := 1) (n := 1) hts0 lwi_X0 (hts0 (.instantiable RX0 1) (by decide +kernel))
  obtain ⟨e1, iS1, hKn1⟩ := u_known (C := RX2) (T := TX2) (N := 4) (n := 4) hts0 lwi_X2 (hts0 (.instantiable RX2 4) (by decide +kernel))
  obtain ⟨e2, iS2, hKn2⟩ := u_known (C := RX3) (T := TX3) (N := 6) (n := 6) hts0 lwi_X3 (hts0 (.instantiable RX3 6) (by decide +kernel))
  obtain ⟨e3, iS3, hKn3⟩ := u_known (C := RX4) (T := TX4) (N := 6) (n := 6) hts0 lwi_X4 (hts0 (.instantiable RX4 6) (by decide +kernel))
  obtain ⟨e4, iS4, hKn4⟩ := u_known (C := RX5) (T := TX5) (N := 4) (n := 4) hts0 lwi_X5 (hts0 (.instantiable RX5 4) (by decide +kernel))
  obtain ⟨e5, iS5, hKn5⟩ := u_known (C := RX6) (T := TX6) (N := 5) (n := 5) hts0 lwi_X6 (hts0 (.instantiable RX6 5) (by decide +kernel))
  obtain ⟨e6, iS6, hKn6⟩ := u_known (C := RX7) (T := TX7) (N := 7) (n := 7) hts0 lwi_X7 (hts0 (.instantiable RX7 7) (by decide +kernel))
  obtain ⟨e7, iS7, hKn7⟩ := u_known (C := RX8) (T := TX8) (N := 4) (n := 4) hts0 lwi_X8 (hts0 (.instantiable RX8 4) (by decide +kernel))
  obtain ⟨e8, iS8, hKn8⟩ := u_known (C := RX9) (T := TX9) (N := 20) (n := 20) hts0 lwi_X9 (hts0 (.instantiable RX9 20) (by decide +kernel))
  obtain ⟨dC, dI, hKc⟩ : ∃ (dC : Nat → ClassId) (dI : Nat → Nat → Nat), ∀ (k : Nat) (q : vw_C), vwCl[k]? = some q → u_Kn s q.1 q.2.1 q.2.2 (dC k) (dI k) := by
    refine ⟨fun k => match k with | 0 => e0 | 1 => e1 | 2 => e2 | 3 => e3 | 4 => e4 | 5 => e5 | 6 => e6 | 7 => e7 | _ => e8, fun k => match k with | 0 => iS0 | 1 => iS1 | 2 => iS2 | 3 => iS3 | 4 => iS4 | 5 => iS5 | 6 => iS6 | 7 => iS7 | _ => iS8, ?_⟩
    intro k q hq
    match k, hq with
    | 0, hq => cases hq; exact hKn0
    | 1, hq => cases hq; exact hKn1
    | 2, hq => cases hq; exact hKn2
    | 3, hq => cases hq; exact hKn3
    | 4, hq => cases hq; exact hKn4
    | 5, hq => cases hq; exact hKn5
    | 6, hq => cases hq; exact hKn6
    | 7, hq => cases hq; exact hKn7
    | 8, hq => cases hq; exact hKn8
    | k + 9, hq => simp [vwCl] at hq
  obtain ⟨t0, hA0, hF0⟩ := ac_of (hts0 (.arrayClass .byte) (by decide +kernel))
  obtain ⟨t1, hA1, hF1⟩ := ac_of (hts0 (.arrayClass .int) (by decide +kernel))
  obtain ⟨t2, hA2, hF2⟩ := ac_of (hts0 (.arrayClass .long) (by decide +kernel))
  obtain ⟨t3, hA3, hF3⟩ := ac_of (hts0 (.arrayClass .boolean) (by decide +kernel))
  have haov := hts0 (.arrayOver (.array .byte)) (by decide +kernel)
  have hao : aoB s := haov
  obtain ⟨t4, hA4, hF4⟩ := ao_of haov
  obtain ⟨y, hKt⟩ : ∃ y : Nat → ClassId, ∀ (k : Nat) (q : ClassId × FieldType), (wT y)[k]? = some q → ArrOfT s q.1 q.2 ∧ va_RA s q.1 q.2 := by
    refine ⟨fun k => match k with | 0 => t0 | 1 => t1 | 2 => t2 | 3 => t3 | _ => t4, ?_⟩
    intro k q hq
    match k, hq with
    | 0, hq => cases hq; exact ⟨hA0, hF0⟩
    | 1, hq => cases hq; exact ⟨hA1, hF1⟩
    | 2, hq => cases hq; exact ⟨hA2, hF2⟩
    | 3, hq => cases hq; exact ⟨hA3, hF3⟩
    | 4, hq => cases hq; exact ⟨hA4, hF4⟩
    | k + 5, hq => simp [wT] at hq
  have hK : va_K (dC, dI) vwCl (wT y) s := ⟨hKc, hKt⟩
  have hs := flat_of_before _ hgv
  obtain ⟨tt, htt, hTT⟩ := va_Tof (args := #[Value.ref b]) (s := s) (tm := (Term.static "SampleTracker$Crc" "OF_HALF_BYTE" "[I")) (ty := .int) (N := 16) (f := fun j => .int (crcT j)) (A := fun q : Nat => s.heap.size ≤ q) (by decide) (hs (.arrayOf (Term.static "SampleTracker$Crc" "OF_HALF_BYTE" "[I") .int) (by decide +kernel)) (va_eqt (hs (.eq (.length (Term.static "SampleTracker$Crc" "OF_HALF_BYTE" "[I")) (.int 16)) (by decide +kernel))) (fun j hj => by
    match j, hj with
    | 0, _ => exact va_eqt (hs (.eq (.elem (Term.static "SampleTracker$Crc" "OF_HALF_BYTE" "[I") (.int 0)) (.int (0))) (by decide +kernel))
    | 1, _ => exact va_eqt (hs (.eq (.elem (Term.static "SampleTracker$Crc" "OF_HALF_BYTE" "[I") (.int 1)) (.int (498536548))) (by decide +kernel))
    | 2, _ => exact va_eqt (hs (.eq (.elem (Term.static "SampleTracker$Crc" "OF_HALF_BYTE" "[I") (.int 2)) (.int (997073096))) (by decide +kernel))
    | 3, _ => exact va_eqt (hs (.eq (.elem (Term.static "SampleTracker$Crc" "OF_HALF_BYTE" "[I") (.int 3)) (.int (651767980))) (by decide +kernel))
    | 4, _ => exact va_eqt (hs (.eq (.elem (Term.static "SampleTracker$Crc" "OF_HALF_BYTE" "[I") (.int 4)) (.int (1994146192))) (by decide +kernel))
    | 5, _ => exact va_eqt (hs (.eq (.elem (Term.static "SampleTracker$Crc" "OF_HALF_BYTE" "[I") (.int 5)) (.int (1802195444))) (by decide +kernel))
    | 6, _ => exact va_eqt (hs (.eq (.elem (Term.static "SampleTracker$Crc" "OF_HALF_BYTE" "[I") (.int 6)) (.int (1303535960))) (by decide +kernel))
    | 7, _ => exact va_eqt (hs (.eq (.elem (Term.static "SampleTracker$Crc" "OF_HALF_BYTE" "[I") (.int 7)) (.int (1342533948))) (by decide +kernel))
    | 8, _ => exact va_eqt (hs (.eq (.elem (Term.static "SampleTracker$Crc" "OF_HALF_BYTE" "[I") (.int 8)) (.int (-306674912))) (by decide +kernel))
    | 9, _ => exact va_eqt (hs (.eq (.elem (Term.static "SampleTracker$Crc" "OF_HALF_BYTE" "[I") (.int 9)) (.int (-267414716))) (by decide +kernel))
    | 10, _ => exact va_eqt (hs (.eq (.elem (Term.static "SampleTracker$Crc" "OF_HALF_BYTE" "[I") (.int 10)) (.int (-690576408))) (by decide +kernel))
    | 11, _ => exact va_eqt (hs (.eq (.elem (Term.static "SampleTracker$Crc" "OF_HALF_BYTE" "[I") (.int 11)) (.int (-882789492))) (by decide +kernel))
    | 12, _ => exact va_eqt (hs (.eq (.elem (Term.static "SampleTracker$Crc" "OF_HALF_BYTE" "[I") (.int 12)) (.int (-1687895376))) (by decide +kernel))
    | 13, _ => exact va_eqt (hs (.eq (.elem (Term.static "SampleTracker$Crc" "OF_HALF_BYTE" "[I") (.int 13)) (.int (-2032938284))) (by decide +kernel))
    | 14, _ => exact va_eqt (hs (.eq (.elem (Term.static "SampleTracker$Crc" "OF_HALF_BYTE" "[I") (.int 14)) (.int (-1609899400))) (by decide +kernel))
    | 15, _ => exact va_eqt (hs (.eq (.elem (Term.static "SampleTracker$Crc" "OF_HALF_BYTE" "[I") (.int 15)) (.int (-1111625188))) (by decide +kernel))
    | j + 16, h => exact absurd h (by omega)) hnA
  have hZZ := va_Zref (A := fun q : Nat => s.heap.size ≤ q) (hts0 (.laysStatic "SampleTracker$Crc" "OF_HALF_BYTE" "[I") (by decide +kernel)) (hts0 (.initialized "SampleTracker$Crc") (by decide +kernel)) htt hnA
  have hno : nOk s := ⟨fun w hw => va_Nw.of (nWf_on w hw) (hts0 w (nf_in w hw)), fun w hw => va_Nw.of (nWm_on w hw) (hts0 w (nm_in w hw))⟩
  have E : Ev (dC, dI) y (fun q : Nat => s.heap.size ≤ q) s := ⟨hK, ⟨tt, hZZ, hTT⟩, hno, hA⟩
  have hfix : CallFix p m c cL_law 4 s _ wsL_law RL := ⟨hx, hb, hml, hown, hts⟩
  have hS : va_S (fun q : Nat => s.heap.size ≤ q) s.heap s.heap [] := va_S.rf
  have hP : va_P (dC, dI) vwCl [] s.heap := fun k q h => by simp at h
  have hD : va_D (fun q : Nat => s.heap.size ≤ q) [] := ⟨fun i j p q h => by simp at h, fun k q h => by simp at h⟩
  obtain ⟨mb, hmb⟩ : ∃ mb, mb = clp (cellV L xs) := ⟨_, rfl⟩
  obtain ⟨nb, hnb⟩ : ∃ nb, nb = (clp (cellV L xs)).toNatClampNeg := ⟨_, rfl⟩
  have hsz : szOk mb nb := by rw [hmb, hnb]; exact clp_ok _
  have hLs : L < 2 ^ 31 := by omega
  have hl := lv_entry ([.ref b]) (n := 4) (Nat.le_of_ble_eq_true rfl)
  rw [lg_entry_eq]
  generalize (lg_sl ([.ref b]) ++ List.replicate (4 - (lg_sl ([.ref b])).length) Slot.unset).toArray = ls at hl ⊢
  have hl : lv_has ls 4 [(0, .ref b)] := hl
  have h2048 := hsz.2.2
  refine va_new (ci := 7) (fs := [.null, .null, .null, .null]) (C := RX8) (T := TX8) (N := 4) hx hb hts0 lwi_X8 tyX8 tyX8_ok hown (hts (.classLink RL 7 RX8) (by decide +kernel)) (hts (.instantiable RX8 4) (by decide +kernel)) (hts (.initialized RX8) (by decide +kernel)) hK hP hD hS hA rfl (fun j hj => by rcases (show j = 0 ∨ j = 1 ∨ j = 2 ∨ j = 3 by omega) with rfl | rfl | rfl | rfl <;> rfl) (by show 0 + 1 ≤ 600000; omega) (by show 0 + 4 ≤ 7302250; omega) dL_law_0 (fun ax H hP hD hS => ?_)
  have hP : va_P (dC, dI) vwCl [(ax, .inr (7, [.null, .null, .null, .null]))] H := hP
  have hD : va_D (fun q : Nat => s.heap.size ≤ q) [(ax, .inr (7, [.null, .null, .null, .null]))] := hD
  refine W.widen (k := 1) (n := 4) (by omega) (by omega) ?_
  refine lv_dup hx hb dL_law_3 rfl ?_
  refine lv_aload_n hx hb dL_law_4 rfl (lv_at hl 0 rfl) ?_
  refine lv_iconst (v := (0 : Int32)) hx hb dL_law_5 (by decide) ?_
  refine W.callR (W.runS (As := [.ref b, .int 0]) (rest := [.ref ax, .ref ax]) hfix (cL_cell_ok l b L xs hLs) (va_cwS 2 hts gL_law_L_cell rfl rfl rfl (by decide +kernel) ⟨Nat.le_of_ble_eq_true rfl, Nat.le_of_ble_eq_true rfl⟩) ⟨fun a U g mk q => ⟨q.1, va_X.moved (u := U) (U := U.calling g mk a) (Vm.Alike.refl U.vm) q.2.1, q.2.2⟩, fun U hU hW => ⟨rfl, by rw [hU]; exact va_X.moved hW.alike (hX.kept (hS.2.1 b hbl hbA)), by rw [hU]; exact Nat.lt_of_lt_of_le hbl hS.1⟩⟩ rfl rfl hl.1 rfl (lv_room (Nat.le_of_ble_eq_true rfl)) dL_law_6 ⟨(by show _ ≤ 600000; omega), (by show _ ≤ 7302250; omega)⟩) ?_
  refine W.eq (g2 := F0 m 9 ls (.int (cellV L xs) :: [.ref ax, .ref ax])) rfl ?_
  have hcx : szOk (if (64 : Int32) < (if (cellV L xs) < (2048 : Int32) then (cellV L xs) else (2048 : Int32)) then (if (cellV L xs) < (2048 : Int32) then (cellV L xs) else (2048 : Int32)) else (64 : Int32)) nb := by rw [clp_mx, ← hmb]; exact hsz
  obtain ⟨res1, hf1, -⟩ := hpure 0 0 nb L mb xs hL hsz
  refine ct_I (As := [.int (cellV L xs)]) (rest := [.ref ax]) (wr := []) hfix (cX8_init_ok l (dC, dI) y ax nb (cellV L xs) hcx res1 hf1) (cwI 1 hts gL_law_X8_init rfl rfl rfl (hts (.initialized RX8) (by decide +kernel)) (hts (.methodLink RL 15 yX8_init) (by decide +kernel)) (hts (.instanceMethod yX8_init) (by decide +kernel)) rfl (by decide +kernel) ⟨Nat.le_of_ble_eq_true rfl, Nat.le_of_ble_eq_true rfl⟩) E hP hD hS [0] [] rfl rfl rfl rfl (by decide) rfl hl.1 rfl (Nat.le_of_ble_eq_true rfl) dL_law_9 ⟨(by show 1 + 21 ≤ 600000; omega), (by show 4 + (1807 + 2 * nb) ≤ 7302250; omega)⟩ (fun u H locs hP hD hS => ?_)
  obtain ⟨xn_1, xn_2, xn_3, xn_4, xn_5, xn_6, xn_7, xn_8, xn_9, xn_10, xn_11, xn_12, xn_13, xn_14, xn_15, xn_16, xn_17, xn_18, xn_19, xn_20, xn_21⟩ := u
  have hP : va_P (dC, dI) vwCl [(ax, .inr (7, [.ref xn_1, .ref xn_2, .ref xn_10, .ref xn_21])), (xn_2, .inr (2, [.ref xn_1, .ref xn_3, .ref xn_5, .ref xn_7, .int (0 : Int32), .int (9 : Int32)])), (xn_1, .inr (5, [.int (zb true), .int (zb false), .int (0 : Int32), .int (0 : Int32), .int (0 : Int32)])), (xn_3, .inr (0, [.ref xn_4])), (xn_4, .inl (y 0, nb, .inl res1.2.2.2.2.2.2.2)), (xn_5, .inr (0, [.ref xn_6])), (xn_6, .inl (y 0, nb, .inl (fun _ => (0 : Int32)))), (xn_7, .inr (4, [.ref xn_1, .ref xn_3, .int (0 : Int32), .int (-1 : Int32)])), (xn_10, .inr (6, [.ref xn_11, .ref xn_12, .ref xn_13, .ref xn_14, .ref xn_15, .int (0 : Int32), .long (0 : Int64)])), (xn_11, .inl (y 1, 121, .inl (fun _ => (0 : Int32)))), (xn_12, .inl (y 1, 121, .inl (fun _ => (0 : Int32)))), (xn_13, .inl (y 2, 121, .inr (.inl (fun _ => (0 : Int64))))), (xn_14, .inl (y 3, 121, .inl (fun _ => (0 : Int32)))), (xn_15, .inr (3, [.ref xn_16, .ref xn_17, .ref xn_18, .ref xn_19, .ref xn_20, .int (0 : Int32)])), (xn_16, .inl (y 1, 256, .inl (fun _ => (0 : Int32)))), (xn_17, .inl (y 2, 256, .inr (.inl (fun _ => (0 : Int64))))), (xn_18, .inl (y 1, 256, .inl (fun _ => (0 : Int32)))), (xn_19, .inl (y 1, 256, .inl (fun _ => (0 : Int32)))), (xn_20, .inl (y 2, 256, .inr (.inl (fun _ => (0 : Int64))))), (xn_21, .inr (1, [.int (0 : Int32), .int (0 : Int32), .int (0 : Int32), .long (0 : Int64)]))] H := hP.sub [0, 2, 1, 3, 4, 5, 6, 7, 10, 11, 12, 13, 14, 15, 16, 17, 18, 19, 20, 21] rfl
  have hD : va_D (fun q : Nat => s.heap.size ≤ q) [(ax, .inr (7, [.ref xn_1, .ref xn_2, .ref xn_10, .ref xn_21])), (xn_2, .inr (2, [.ref xn_1, .ref xn_3, .ref xn_5, .ref xn_7, .int (0 : Int32), .int (9 : Int32)])), (xn_1, .inr (5, [.int (zb true), .int (zb false), .int (0 : Int32), .int (0 : Int32), .int (0 : Int32)])), (xn_3, .inr (0, [.ref xn_4])), (xn_4, .inl (y 0, nb, .inl res1.2.2.2.2.2.2.2)), (xn_5, .inr (0, [.ref xn_6])), (xn_6, .inl (y 0, nb, .inl (fun _ => (0 : Int32)))), (xn_7, .inr (4, [.ref xn_1, .ref xn_3, .int (0 : Int32), .int (-1 : Int32)])), (xn_10, .inr (6, [.ref xn_11, .ref xn_12, .ref xn_13, .ref xn_14, .ref xn_15, .int (0 : Int32), .long (0 : Int64)])), (xn_11, .inl (y 1, 121, .inl (fun _ => (0 : Int32)))), (xn_12, .inl (y 1, 121, .inl (fun _ => (0 : Int32)))), (xn_13, .inl (y 2, 121, .inr (.inl (fun _ => (0 : Int64))))), (xn_14, .inl (y 3, 121, .inl (fun _ => (0 : Int32)))), (xn_15, .inr (3, [.ref xn_16, .ref xn_17, .ref xn_18, .ref xn_19, .ref xn_20, .int (0 : Int32)])), (xn_16, .inl (y 1, 256, .inl (fun _ => (0 : Int32)))), (xn_17, .inl (y 2, 256, .inr (.inl (fun _ => (0 : Int64))))), (xn_18, .inl (y 1, 256, .inl (fun _ => (0 : Int32)))), (xn_19, .inl (y 1, 256, .inl (fun _ => (0 : Int32)))), (xn_20, .inl (y 2, 256, .inr (.inl (fun _ => (0 : Int64))))), (xn_21, .inr (1, [.int (0 : Int32), .int (0 : Int32), .int (0 : Int32), .long (0 : Int64)]))] := hD.sub [0, 2, 1, 3, 4, 5, 6, 7, 10, 11, 12, 13, 14, 15, 16, 17, 18, 19, 20, 21] (by decide) rfl
  refine W.widen (k := 22) (n := (1811 + 2 * nb)) (by omega) (by omega) ?_
  refine W.eq (g2 := F0 m 12 ls [.ref ax]) rfl ?_
  refine lv_astore_n (lv' := [(1, .ref ax), (0, .ref b)]) hx hb dL_law_12 rfl hl (by decide) rfl (fun ls hl => ?_)
  refine va_new (ci := 8) (fs := [.int 0, .int 0, .null, .int 0, .int 0, .int 0, .int 0, .int 0, .int 0, .int 0, .null, .null, .null, .null, .int 0, .int 0, .long 0, .null, .int 0, .null]) (C := RX9) (T := TX9) (N := 20) hx hb hts0 lwi_X9 tyX9 tyX9_ok hown (hts (.classLink RL 18 RX9) (by decide +kernel)) (hts (.instantiable RX9 20) (by decide +kernel)) (hts (.initialized RX9) (by decide +kernel)) hK hP hD hS hA rfl (fun j hj => by rcases (show j = 0 ∨ j = 1 ∨ j = 2 ∨ j = 3 ∨ j = 4 ∨ j = 5 ∨ j = 6 ∨ j = 7 ∨ j = 8 ∨ j = 9 ∨ j = 10 ∨ j = 11 ∨ j = 12 ∨ j = 13 ∨ j = 14 ∨ j = 15 ∨ j = 16 ∨ j = 17 ∨ j = 18 ∨ j = 19 by omega) with rfl | rfl | rfl | rfl | rfl | rfl | rfl | rfl | rfl | rfl | rfl | rfl | rfl | rfl | rfl | rfl | rfl | rfl | rfl | rfl <;> rfl) (by show 22 + 1 ≤ 600000; omega) (by show (1811 + 2 * nb) + 20 ≤ 7302250; omega) dL_law_13 (fun am H hP hD hS => ?_)
  have hP : va_P (dC, dI) vwCl [(ax, .inr (7, [.ref xn_1, .ref xn_2, .ref xn_10, .ref xn_21])), (xn_2, .inr (2, [.ref xn_1, .ref xn_3, .ref xn_5, .ref xn_7, .int (0 : Int32), .int (9 : Int32)])), (xn_1, .inr (5, [.int (zb true), .int (zb false), .int (0 : Int32), .int (0 : Int32), .int (0 : Int32)])), (xn_3, .inr (0, [.ref xn_4])), (xn_4, .inl (y 0, nb, .inl res1.2.2.2.2.2.2.2)), (xn_5, .inr (0, [.ref xn_6])), (xn_6, .inl (y 0, nb, .inl (fun _ => (0 : Int32)))), (xn_7, .inr (4, [.ref xn_1, .ref xn_3, .int (0 : Int32), .int (-1 : Int32)])), (xn_10, .inr (6, [.ref xn_11, .ref xn_12, .ref xn_13, .ref xn_14, .ref xn_15, .int (0 : Int32), .long (0 : Int64)])), (xn_11, .inl (y 1, 121, .inl (fun _ => (0 : Int32)))), (xn_12, .inl (y 1, 121, .inl (fun _ => (0 : Int32)))), (xn_13, .inl (y 2, 121, .inr (.inl (fun _ => (0 : Int64))))), (xn_14, .inl (y 3, 121, .inl (fun _ => (0 : Int32)))), (xn_15, .inr (3, [.ref xn_16, .ref xn_17, .ref xn_18, .ref xn_19, .ref xn_20, .int (0 : Int32)])), (xn_16, .inl (y 1, 256, .inl (fun _ => (0 : Int32)))), (xn_17, .inl (y 2, 256, .inr (.inl (fun _ => (0 : Int64))))), (xn_18, .inl (y 1, 256, .inl (fun _ => (0 : Int32)))), (xn_19, .inl (y 1, 256, .inl (fun _ => (0 : Int32)))), (xn_20, .inl (y 2, 256, .inr (.inl (fun _ => (0 : Int64))))), (xn_21, .inr (1, [.int (0 : Int32), .int (0 : Int32), .int (0 : Int32), .long (0 : Int64)])), (am, .inr (8, [.int (0 : Int32), .int (0 : Int32), .null, .int (0 : Int32), .int (0 : Int32), .int (0 : Int32), .int (zb false), .int (0 : Int32), .int (0 : Int32), .int (0 : Int32), .null, .null, .null, .null, .int (0 : Int32), .int (0 : Int32), .long (0 : Int64), .null, .int (0 : Int32), .null]))] H := hP
  have hD : va_D (fun q : Nat => s.heap.size ≤ q) [(ax, .inr (7, [.ref xn_1, .ref xn_2, .ref xn_10, .ref xn_21])), (xn_2, .inr (2, [.ref xn_1, .ref xn_3, .ref xn_5, .ref xn_7, .int (0 : Int32), .int (9 : Int32)])), (xn_1, .inr (5, [.int (zb true), .int (zb false), .int (0 : Int32), .int (0 : Int32), .int (0 : Int32)])), (xn_3, .inr (0, [.ref xn_4])), (xn_4, .inl (y 0, nb, .inl res1.2.2.2.2.2.2.2)), (xn_5, .inr (0, [.ref xn_6])), (xn_6, .inl (y 0, nb, .inl (fun _ => (0 : Int32)))), (xn_7, .inr (4, [.ref xn_1, .ref xn_3, .int (0 : Int32), .int (-1 : Int32)])), (xn_10, .inr (6, [.ref xn_11, .ref xn_12, .ref xn_13, .ref xn_14, .ref xn_15, .int (0 : Int32), .long (0 : Int64)])), (xn_11, .inl (y 1, 121, .inl (fun _ => (0 : Int32)))), (xn_12, .inl (y 1, 121, .inl (fun _ => (0 : Int32)))), (xn_13, .inl (y 2, 121, .inr (.inl (fun _ => (0 : Int64))))), (xn_14, .inl (y 3, 121, .inl (fun _ => (0 : Int32)))), (xn_15, .inr (3, [.ref xn_16, .ref xn_17, .ref xn_18, .ref xn_19, .ref xn_20, .int (0 : Int32)])), (xn_16, .inl (y 1, 256, .inl (fun _ => (0 : Int32)))), (xn_17, .inl (y 2, 256, .inr (.inl (fun _ => (0 : Int64))))), (xn_18, .inl (y 1, 256, .inl (fun _ => (0 : Int32)))), (xn_19, .inl (y 1, 256, .inl (fun _ => (0 : Int32)))), (xn_20, .inl (y 2, 256, .inr (.inl (fun _ => (0 : Int64))))), (xn_21, .inr (1, [.int (0 : Int32), .int (0 : Int32), .int (0 : Int32), .long (0 : Int64)])), (am, .inr (8, [.int (0 : Int32), .int (0 : Int32), .null, .int (0 : Int32), .int (0 : Int32), .int (0 : Int32), .int (zb false), .int (0 : Int32), .int (0 : Int32), .int (0 : Int32), .null, .null, .null, .null, .int (0 : Int32), .int (0 : Int32), .long (0 : Int64), .null, .int (0 : Int32), .null]))] := hD
  refine W.widen (k := 23) (n := (1831 + 2 * nb)) (by omega) (by omega) ?_
  refine lv_dup hx hb dL_law_16 rfl ?_
  refine lv_aload_n hx hb dL_law_17 rfl (lv_at hl 1 rfl) ?_
  refine lv_iconst (v := (0 : Int32)) hx hb dL_law_18 (by decide) ?_
  refine W.callR (W.runS (As := [.ref b, .int 0]) (rest := [.ref am, .ref am]) hfix (cL_cell_ok l b L xs hLs) (va_cwS 2 hts gL_law_L_cell rfl rfl rfl (by decide +kernel) ⟨Nat.le_of_ble_eq_true rfl, Nat.le_of_ble_eq_true rfl⟩) ⟨fun a U g mk q => ⟨q.1, va_X.moved (u := U) (U := U.calling g mk a) (Vm.Alike.refl U.vm) q.2.1, q.2.2⟩, fun U hU hW => ⟨rfl, by rw [hU]; exact va_X.moved hW.alike (hX.kept (hS.2.1 b hbl hbA)), by rw [hU]; exact Nat.lt_of_lt_of_le hbl hS.1⟩⟩ rfl rfl hl.1 rfl (lv_room (Nat.le_of_ble_eq_true rfl)) dL_law_19 ⟨(by show _ ≤ 600000; omega), (by show _ ≤ 7302250; omega)⟩) ?_
  refine W.eq (g2 := F0 m 22 ls (.int (cellV L xs) :: [.ref am, .ref am])) rfl ?_
  obtain ⟨res1b, hf1b, res2, hf2, hf⟩ := hpure xn_3 xn_5 nb L mb xs hL hsz
  have e12 : res1b = res1 := Option.some.inj (hf1b.symm.trans hf1)
  subst e12
  refine ct_I2 (As := [.int (cellV L xs)]) (rest := [.ref am]) (wr := [(ax, .inr (7, [.ref xn_1, .ref xn_2, .ref xn_10, .ref xn_21])), (xn_2, .inr (2, [.ref xn_1, .ref xn_3, .ref xn_5, .ref xn_7, .int (0 : Int32), .int (9 : Int32)])), (xn_1, .inr (5, [.int (zb true), .int (zb false), .int (0 : Int32), .int (0 : Int32), .int (0 : Int32)])), (xn_3, .inr (0, [.ref xn_4])), (xn_4, .inl (y 0, nb, .inl res1b.2.2.2.2.2.2.2)), (xn_5, .inr (0, [.ref xn_6])), (xn_6, .inl (y 0, nb, .inl (fun _ => (0 : Int32)))), (xn_7, .inr (4, [.ref xn_1, .ref xn_3, .int (0 : Int32), .int (-1 : Int32)])), (xn_10, .inr (6, [.ref xn_11, .ref xn_12, .ref xn_13, .ref xn_14, .ref xn_15, .int (0 : Int32), .long (0 : Int64)])), (xn_11, .inl (y 1, 121, .inl (fun _ => (0 : Int32)))), (xn_12, .inl (y 1, 121, .inl (fun _ => (0 : Int32)))), (xn_13, .inl (y 2, 121, .inr (.inl (fun _ => (0 : Int64))))), (xn_14, .inl (y 3, 121, .inl (fun _ => (0 : Int32)))), (xn_15, .inr (3, [.ref xn_16, .ref xn_17, .ref xn_18, .ref xn_19, .ref xn_20, .int (0 : Int32)])), (xn_16, .inl (y 1, 256, .inl (fun _ => (0 : Int32)))), (xn_17, .inl (y 2, 256, .inr (.inl (fun _ => (0 : Int64))))), (xn_18, .inl (y 1, 256, .inl (fun _ => (0 : Int32)))), (xn_19, .inl (y 1, 256, .inl (fun _ => (0 : Int32)))), (xn_20, .inl (y 2, 256, .inr (.inl (fun _ => (0 : Int64))))), (xn_21, .inr (1, [.int (0 : Int32), .int (0 : Int32), .int (0 : Int32), .long (0 : Int64)]))]) hfix (cX9_init_ok l (dC, dI) y am nb mb (cellV L xs) hsz (by rw [hmb]; rfl) res2 hf2) (cwI 1 hts gL_law_X9_init rfl rfl rfl (hts (.initialized RX9) (by decide +kernel)) (hts (.methodLink RL 20 yX9_init) (by decide +kernel)) (hts (.instanceMethod yX9_init) (by decide +kernel)) rfl (by decide +kernel) ⟨Nat.le_of_ble_eq_true rfl, Nat.le_of_ble_eq_true rfl⟩) E hao hP hD hS [20] [0, 1, 2, 3, 4, 5, 6, 7, 8, 9, 10, 11, 12, 13, 14, 15, 16, 17, 18, 19] rfl rfl rfl rfl (by decide) rfl hl.1 rfl (Nat.le_of_ble_eq_true rfl) dL_law_22 ⟨(by show 23 + 9 ≤ 600000; omega), (by show (1831 + 2 * nb) + (778 + 2 * nb) ≤ 7302250; omega)⟩ (fun u H locs hP hD hS => ?_)
  obtain ⟨m_p, m_w, m_l, m_v, m_r, m_q, mo, m1, m2⟩ := u
  have hP : va_P (dC, dI) vwCl [(ax, .inr (7, [.ref xn_1, .ref xn_2, .ref xn_10, .ref xn_21])), (xn_2, .inr (2, [.ref xn_1, .ref xn_3, .ref xn_5, .ref xn_7, .int (0 : Int32), .int (9 : Int32)])), (xn_1, .inr (5, [.int (zb true), .int (zb false), .int (0 : Int32), .int (0 : Int32), .int (0 : Int32)])), (xn_3, .inr (0, [.ref xn_4])), (xn_4, .inl (y 0, nb, .inl res1b.2.2.2.2.2.2.2)), (xn_5, .inr (0, [.ref xn_6])), (xn_6, .inl (y 0, nb, .inl (fun _ => (0 : Int32)))), (xn_7, .inr (4, [.ref xn_1, .ref xn_3, .int (0 : Int32), .int (-1 : Int32)])), (xn_10, .inr (6, [.ref xn_11, .ref xn_12, .ref xn_13, .ref xn_14, .ref xn_15, .int (0 : Int32), .long (0 : Int64)])), (xn_11, .inl (y 1, 121, .inl (fun _ => (0 : Int32)))), (xn_12, .inl (y 1, 121, .inl (fun _ => (0 : Int32)))), (xn_13, .inl (y 2, 121, .inr (.inl (fun _ => (0 : Int64))))), (xn_14, .inl (y 3, 121, .inl (fun _ => (0 : Int32)))), (xn_15, .inr (3, [.ref xn_16, .ref xn_17, .ref xn_18, .ref xn_19, .ref xn_20, .int (0 : Int32)])), (xn_16, .inl (y 1, 256, .inl (fun _ => (0 : Int32)))), (xn_17, .inl (y 2, 256, .inr (.inl (fun _ => (0 : Int64))))), (xn_18, .inl (y 1, 256, .inl (fun _ => (0 : Int32)))), (xn_19, .inl (y 1, 256, .inl (fun _ => (0 : Int32)))), (xn_20, .inl (y 2, 256, .inr (.inl (fun _ => (0 : Int64))))), (xn_21, .inr (1, [.int (0 : Int32), .int (0 : Int32), .int (0 : Int32), .long (0 : Int64)])), (am, .inr (8, [.int (0 : Int32), .int mb, .ref mo, .int (0 : Int32), .int res2.1, .int res2.2.1, .int (zb false), .int (-1 : Int32), .int (0 : Int32), .int (0 : Int32), .ref m_p, .ref m_w, .ref m_l, .ref m_v, .int res2.2.2.1, .int res2.2.2.2.1, .long res2.2.2.2.2.1, .ref m_r, .int res2.2.2.2.2.2.1, .ref m_q])), (mo, .inl (y 4, 2, .inr (.inr (.inr (.inr (outr m1 m2)))))), (m1, .inl (y 0, nb, .inl res2.2.2.2.2.2.2.1)), (m2, .inl (y 0, nb, .inl (fun _ => (0 : Int32)))), (m_p, .inl (y 1, 121, .inl res2.2.2.2.2.2.2.2.1)), (m_w, .inl (y 1, 121, .inl res2.2.2.2.2.2.2.2.2.1)), (m_l, .inl (y 3, 121, .inl res2.2.2.2.2.2.2.2.2.2.1)), (m_v, .inl (y 2, 121, .inr (.inl res2.2.2.2.2.2.2.2.2.2.2.1))), (m_r, .inl (y 0, 32, .inl res2.2.2.2.2.2.2.2.2.2.2.2.1)), (m_q, .inl (y 1, 260, .inl res2.2.2.2.2.2.2.2.2.2.2.2.2))] H := hP
  have hD : va_D (fun q : Nat => s.heap.size ≤ q) [(ax, .inr (7, [.ref xn_1, .ref xn_2, .ref xn_10, .ref xn_21])), (xn_2, .inr (2, [.ref xn_1, .ref xn_3, .ref xn_5, .ref xn_7, .int (0 : Int32), .int (9 : Int32)])), (xn_1, .inr (5, [.int (zb true), .int (zb false), .int (0 : Int32), .int (0 : Int32), .int (0 : Int32)])), (xn_3, .inr (0, [.ref xn_4])), (xn_4, .inl (y 0, nb, .inl res1b.2.2.2.2.2.2.2)), (xn_5, .inr (0, [.ref xn_6])), (xn_6, .inl (y 0, nb, .inl (fun _ => (0 : Int32)))), (xn_7, .inr (4, [.ref xn_1, .ref xn_3, .int (0 : Int32), .int (-1 : Int32)])), (xn_10, .inr (6, [.ref xn_11, .ref xn_12, .ref xn_13, .ref xn_14, .ref xn_15, .int (0 : Int32), .long (0 : Int64)])), (xn_11, .inl (y 1, 121, .inl (fun _ => (0 : Int32)))), (xn_12, .inl (y 1, 121, .inl (fun _ => (0 : Int32)))), (xn_13, .inl (y 2, 121, .inr (.inl (fun _ => (0 : Int64))))), (xn_14, .inl (y 3, 121, .inl (fun _ => (0 : Int32)))), (xn_15, .inr (3, [.ref xn_16, .ref xn_17, .ref xn_18, .ref xn_19, .ref xn_20, .int (0 : Int32)])), (xn_16, .inl (y 1, 256, .inl (fun _ => (0 : Int32)))), (xn_17, .inl (y 2, 256, .inr (.inl (fun _ => (0 : Int64))))), (xn_18, .inl (y 1, 256, .inl (fun _ => (0 : Int32)))), (xn_19, .inl (y 1, 256, .inl (fun _ => (0 : Int32)))), (xn_20, .inl (y 2, 256, .inr (.inl (fun _ => (0 : Int64))))), (xn_21, .inr (1, [.int (0 : Int32), .int (0 : Int32), .int (0 : Int32), .long (0 : Int64)])), (am, .inr (8, [.int (0 : Int32), .int mb, .ref mo, .int (0 : Int32), .int res2.1, .int res2.2.1, .int (zb false), .int (-1 : Int32), .int (0 : Int32), .int (0 : Int32), .ref m_p, .ref m_w, .ref m_l, .ref m_v, .int res2.2.2.1, .int res2.2.2.2.1, .long res2.2.2.2.2.1, .ref m_r, .int res2.2.2.2.2.2.1, .ref m_q])), (mo, .inl (y 4, 2, .inr (.inr (.inr (.inr (outr m1 m2)))))), (m1, .inl (y 0, nb, .inl res2.2.2.2.2.2.2.1)), (m2, .inl (y 0, nb, .inl (fun _ => (0 : Int32)))), (m_p, .inl (y 1, 121, .inl res2.2.2.2.2.2.2.2.1)), (m_w, .inl (y 1, 121, .inl res2.2.2.2.2.2.2.2.2.1)), (m_l, .inl (y 3, 121, .inl res2.2.2.2.2.2.2.2.2.2.1)), (m_v, .inl (y 2, 121, .inr (.inl res2.2.2.2.2.2.2.2.2.2.2.1))), (m_r, .inl (y 0, 32, .inl res2.2.2.2.2.2.2.2.2.2.2.2.1)), (m_q, .inl (y 1, 260, .inl res2.2.2.2.2.2.2.2.2.2.2.2.2))] := hD
  refine W.widen (k := 600000) (n := 7302250) (by omega) (by omega) ?_
  refine W.eq (g2 := F0 m 25 ls [.ref am]) rfl ?_
  refine lv_astore_n (lv' := [(2, .ref am), (1, .ref ax), (0, .ref b)]) hx hb dL_law_25 rfl hl (by decide) rfl (fun ls hl => ?_)
  refine lv_iconst (v := (1 : Int32)) hx hb dL_law_26 (by decide) ?_
  refine lv_istore_n (lv' := [(3, .int (1 : Int32)), (2, .ref am), (1, .ref ax), (0, .ref b)]) hx hb dL_law_27 rfl hl (by decide) rfl (fun ls hl => ?_)
  exact law_loop C0 E ax xn_2 xn_1 xn_3 xn_4 xn_5 xn_6 xn_7 xn_10 xn_11 xn_12 xn_13 xn_14 xn_15 xn_16 xn_17 xn_18 xn_19 xn_20 xn_21 am mo m1 m2 m_p m_w m_l m_v m_r m_q true false (0 : Int32) (0 : Int32) (0 : Int32) xn_3 (0 : Int32) (-1 : Int32) nb res1b.2.2.2.2.2.2.2 (fun _ => (0 : Int32)) (0 : Int32) (9 : Int32) (0 : Int32) (0 : Int32) (0 : Int32) (0 : Int64) (fun _ => (0 : Int32)) (fun _ => (0 : Int32)) (fun _ => (0 : Int64)) (fun _ => (0 : Int32)) (0 : Int32) (0 : Int64) (fun _ => (0 : Int32)) (fun _ => (0 : Int64)) (fun _ => (0 : Int32)) (fun _ => (0 : Int32)) (fun _ => (0 : Int64)) (0 : Int32) (0 : Int32) mb (0 : Int32) res2.1 res2.2.1 false (-1 : Int32) (0 : Int32) (0 : Int32) res2.2.2.1 res2.2.2.2.1 res2.2.2.2.2.1 res2.2.2.2.2.2.1 res2.2.2.2.2.2.2.1 (fun _ => (0 : Int32)) res2.2.2.2.2.2.2.2.1 res2.2.2.2.2.2.2.2.2.1 res2.2.2.2.2.2.2.2.2.2.1 res2.2.2.2.2.2.2.2.2.2.2.1 res2.2.2.2.2.2.2.2.2.2.2.2.1 res2.2.2.2.2.2.2.2.2.2.2.2.2 (1 : Int32) hf H locs ls hP hD hS (lv_sub hl [3, 2, 1, 0] rfl)
