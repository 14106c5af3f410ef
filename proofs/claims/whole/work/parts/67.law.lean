/-! 67.law: the loop of the law -/
theorem neg5 : ∀ L, L < 5 → (nI L - (5 : Int32)) < 0 := by decide
theorem i32_lt_nn {x : Int32} {i : Nat} (hx : x < 0) (hi : i < 2 ^ 31) : x < nI i := by
  have h := nI_pos' hi
  rw [Int32.le_iff_toInt_le] at h
  rw [Int32.lt_iff_toInt_lt] at hx ⊢
  omega
theorem stop_ok {L i : Nat} (hL : L ≤ 2561) (hi : i ≤ 2566) (h : L < i + 5) : (nI L - (5 : Int32)) < nI i := by
  by_cases h5 : L < 5
  · exact i32_lt_nn (neg5 L h5) (by omega)
  · rw [show nI L - (5 : Int32) = nI (L - 5) from pk_sub (a := L) (b := 5) (by omega)]
    exact nI_lt (by omega) (by omega)
theorem go_ok {L i : Nat} (hL : L ≤ 2561) (h : i + 5 ≤ L) : ¬ (nI L - (5 : Int32)) < nI i := by
  rw [show nI L - (5 : Int32) = nI (L - 5) from pk_sub (a := L) (b := 5) (by omega)]
  exact nI_nlt (by omega) (by omega)
set_option maxHeartbeats 4000000 in
theorem law_ok {nb : Nat} (h64 : 64 ≤ nb) (hnb : nb ≤ 2048) (k1 k2 L : Nat) (hL : L ≤ 2561) (xs : Nat → Int32) : ∀ (d i f g : Nat) (en : Int32) (up cw : Bool) (bl wr fa : Int32) (b1 b2 : Nat → Int32) (pb : Nat) (pos crc sa : Int32) (lo : Int64) (pa we : Nat → Int32) (vo : Nat → Int64) (qn : Int32) (qs : Nat → Int32) (ql : Nat → Int64) (qt qw : Nat → Int32) (qv : Nat → Int64) (ek es ew : Int32) (ev : Int64) (me rc : Int32) (dn : Bool) (lf mw mf ms mu : Int32) (ml : Int64) (mz : Int32) (c1 c2 mpa mwe mli : Nat → Int32) (mvo : Nat → Int64) (mro mpl : Nat → Int32) (iu us : Int32) (fm : Nat → Int32), L < i + 5 + d → i ≤ 2566 → d < f → g + d < 100000 → Inv nb g en up cw bl wr fa b1 b2 sa lo pa we vo qn qs ql qt qw qv iu me dn lf mw mf ms mu ml c1 c2 mpa mwe mli mvo us → fL_law_28 k1 k2 nb (nI nb) L xs f (nI i) en up cw bl wr fa b1 b2 pb pos crc sa lo pa we vo qn qs ql qt qw qv ek es ew ev me rc dn lf mw mf ms mu ml mz c1 c2 mpa mwe mli mvo mro mpl iu us fm = some true := by
  intro d
  induction d with
  | zero =>
    intro i f g en up cw bl wr fa b1 b2 pb pos crc sa lo pa we vo qn qs ql qt qw qv ek es ew ev me rc dn lf mw mf ms mu ml mz c1 c2 mpa mwe mli mvo mro mpl iu us fm h1 hi hf hg hI
    obtain ⟨f, rfl⟩ : ∃ f', f = f' + 1 := ⟨f - 1, by omega⟩
    unfold fL_law_28
    exact if_pos (stop_ok hL hi (by omega))
  | succ d ih =>
    intro i f g en up cw bl wr fa b1 b2 pb pos crc sa lo pa we vo qn qs ql qt qw qv ek es ew ev me rc dn lf mw mf ms mu ml mz c1 c2 mpa mwe mli mvo mro mpl iu us fm h1 hi hf hg hI
    obtain ⟨f, rfl⟩ : ∃ f', f = f' + 1 := ⟨f - 1, by omega⟩
    unfold fL_law_28
    by_cases hstop : L < i + 5
    · exact if_pos (stop_ok hL hi hstop)
    refine (if_neg (go_ok hL (by omega))).trans ?_
    have i0 : ib (nI i) L = true := ib_nI (by omega) (by omega)
    have e1 : nI i + (1 : Int32) = nI (i + 1) := nI_add i 1
    have e2 : nI i + (2 : Int32) = nI (i + 2) := nI_add i 2
    have e3 : nI i + (3 : Int32) = nI (i + 3) := nI_add i 3
    have e4 : nI i + (4 : Int32) = nI (i + 4) := nI_add i 4
    have e5 : nI i + (5 : Int32) = nI (i + 5) := nI_add i 5
    have i1 : ib (nI i + (1 : Int32)) L = true := by rw [e1]; exact ib_nI (by omega) (by omega)
    have i2 : ib (nI i + (2 : Int32)) L = true := by rw [e2]; exact ib_nI (by omega) (by omega)
    have i3 : ib (nI i + (3 : Int32)) L = true := by rw [e3]; exact ib_nI (by omega) (by omega)
    have i4 : ib (nI i + (4 : Int32)) L = true := by rw [e4]; exact ib_nI (by omega) (by omega)
    refine (if_pos i0).trans ?_
    rw [e5]
    have hI1 := hI.mono (Nat.le_add_right g 1)
    have nxt : ∀ {g' : Nat} {en : Int32} {up cw : Bool} {bl wr fa : Int32} {b1 b2 : Nat → Int32} {pb : Nat} {pos crc sa : Int32} {lo : Int64} {pa we : Nat → Int32} {vo : Nat → Int64} {qn : Int32} {qs : Nat → Int32} {ql : Nat → Int64} {qt qw : Nat → Int32} {qv : Nat → Int64} {ek es ew : Int32} {ev : Int64} {me rc : Int32} {dn : Bool} {lf mw mf ms mu : Int32} {ml : Int64} {mz : Int32} {c1 c2 mpa mwe mli : Nat → Int32} {mvo : Nat → Int64} {mro mpl : Nat → Int32} {iu us : Int32} {fm : Nat → Int32}, g' ≤ g + 1 → Inv nb g' en up cw bl wr fa b1 b2 sa lo pa we vo qn qs ql qt qw qv iu me dn lf mw mf ms mu ml c1 c2 mpa mwe mli mvo us → fL_law_28 k1 k2 nb (nI nb) L xs f (nI (i + 5)) en up cw bl wr fa b1 b2 pb pos crc sa lo pa we vo qn qs ql qt qw qv ek es ew ev me rc dn lf mw mf ms mu ml mz c1 c2 mpa mwe mli mvo mro mpl iu us fm = some true := fun hg' hI' => ih (i + 5) f _ _ _ _ _ _ _ _ _ _ _ _ _ _ _ _ _ _ _ _ _ _ _ _ _ _ _ _ _ _ _ _ _ _ _ _ _ _ _ _ _ _ _ _ _ _ _ _ (by omega) (by omega) (by omega) (by omega) hI'
    by_cases op0 : (xs (nI i).toNatClampNeg) &&& (15 : Int32) = (0 : Int32)
    · refine (if_pos op0).trans ?_
      refine (if_pos i1).trans ?_
      refine (if_pos i2).trans ?_
      refine (if_pos i3).trans ?_
      obtain ⟨r', up', cw', bl', wr', fa', pb', pos', crc', b1', b2', en', ek', es', ew', ev', pa', we', vo', sa', lo', qs', ql', qt', qw', qv', qn', ho, me', rc', dn', lf', mw', mf', ms', mu', ml', mz', c1', c2', mpa', mwe', mli', mvo', mro', mpl', hq, hI'⟩ := sim_register h64 hnb hI k1 k2 pb pos crc rc mz mro mpl _ _ 
      rw [ho, Option.bind_some]
      dsimp only
      rw [hq, Option.bind_some]
      dsimp only
      rw [if_pos rfl]
      exact nxt (by omega) hI'
    refine (if_neg op0).trans ?_
    by_cases op1 : (xs (nI i).toNatClampNeg) &&& (15 : Int32) = (1 : Int32)
    · refine (if_pos op1).trans ?_
      refine (if_pos i1).trans ?_
      refine (if_pos i2).trans ?_
      refine (if_pos i3).trans ?_
      refine (if_pos i4).trans ?_
      obtain ⟨r', up', cw', bl', wr', fa', pb', pos', crc', b1', b2', en', ek', es', ew', ev', pa', we', vo', sa', lo', qs', ql', qt', qw', qv', qn', ho, me', rc', dn', lf', mw', mf', ms', mu', ml', mz', c1', c2', mpa', mwe', mli', mvo', mro', mpl', hq, hI'⟩ := sim_aliquot h64 hnb hI k1 k2 pb pos crc rc mz mro mpl _ _ _ 
      rw [ho, Option.bind_some]
      dsimp only
      rw [hq, Option.bind_some]
      dsimp only
      rw [if_pos rfl]
      exact nxt (by omega) hI'
    refine (if_neg op1).trans ?_
    by_cases op2 : (xs (nI i).toNatClampNeg) &&& (15 : Int32) = (2 : Int32)
    · refine (if_pos op2).trans ?_
      refine (if_pos i1).trans ?_
      refine (if_pos i2).trans ?_
      obtain ⟨r', up', cw', bl', wr', fa', pb', pos', crc', b1', b2', en', ek', es', ew', ev', pa', we', vo', sa', lo', qs', ql', qt', qw', qv', qn', ho, me', rc', dn', lf', mw', mf', ms', mu', ml', mz', c1', c2', mpa', mwe', mli', mvo', mro', mpl', hq, hI'⟩ := sim_move h64 hnb hI k1 k2 pb pos crc rc mz mro mpl _ _ 
      rw [ho, Option.bind_some]
      dsimp only
      rw [hq, Option.bind_some]
      dsimp only
      rw [if_pos rfl]
      exact nxt (by omega) hI'
    refine (if_neg op2).trans ?_
    by_cases op3 : (xs (nI i).toNatClampNeg) &&& (15 : Int32) = (3 : Int32)
    · refine (if_pos op3).trans ?_
      refine (if_pos i1).trans ?_
      obtain ⟨r', up', cw', bl', wr', fa', pb', pos', crc', b1', b2', en', ek', es', ew', ev', pa', we', vo', sa', lo', qs', ql', qt', qw', qv', qn', ho, me', rc', dn', lf', mw', mf', ms', mu', ml', mz', c1', c2', mpa', mwe', mli', mvo', mro', mpl', hq, hI'⟩ := sim_discard h64 hnb hI k1 k2 pb pos crc rc mz mro mpl _ 
      rw [ho, Option.bind_some]
      dsimp only
      rw [hq, Option.bind_some]
      dsimp only
      rw [if_pos rfl]
      exact nxt (by omega) hI'
    refine (if_neg op3).trans ?_
    by_cases op4 : (xs (nI i).toNatClampNeg) &&& (15 : Int32) = (4 : Int32)
    · refine (if_pos op4).trans ?_
      obtain ⟨r', up', cw', bl', wr', fa', pb', pos', crc', b1', b2', en', ek', es', ew', ev', pa', we', vo', sa', lo', qs', ql', qt', qw', qv', qn', ho, me', rc', dn', lf', mw', mf', ms', mu', ml', mz', c1', c2', mpa', mwe', mli', mvo', mro', mpl', hq, hI'⟩ := sim_undo h64 hnb hI k1 k2 pb pos crc rc mz mro mpl 
      rw [ho, Option.bind_some]
      dsimp only
      rw [hq, Option.bind_some]
      dsimp only
      rw [if_pos rfl]
      exact nxt (by omega) hI'
    refine (if_neg op4).trans ?_
    by_cases op5 : (xs (nI i).toNatClampNeg) &&& (15 : Int32) = (5 : Int32)
    · refine (if_pos op5).trans ?_
      obtain ⟨r', up', cw', bl', wr', fa', pb', pos', crc', b1', b2', iu', en', ek', es', ew', ev', qn', ho, us', me', rc', dn', lf', mw', mf', ms', mu', ml', mz', c1', c2', mpa', mwe', mli', mvo', mro', mpl', hq, hI'⟩ := sim_compact h64 hnb (by omega) hI k1 k2 pb pos crc ek es ew ev rc mz mro mpl
      rw [ho, Option.bind_some]
      dsimp only
      rw [hq, Option.bind_some]
      dsimp only
      rw [if_pos rfl]
      exact nxt (Nat.le_refl _) hI'
    refine (if_neg op5).trans ?_
    by_cases op6 : (xs (nI i).toNatClampNeg) &&& (15 : Int32) = (6 : Int32)
    · refine (if_pos op6).trans ?_
      refine (if_pos i1).trans ?_
      obtain ⟨x, cw', bl', lf', ho, hq, hI'⟩ := sim_cut hI1 (xs (nI i + (1 : Int32)).toNatClampNeg)
      rw [ho, Option.bind_some]
      dsimp only
      rw [hq, Option.bind_some]
      dsimp only
      rw [if_pos rfl]
      exact nxt (Nat.le_refl _) hI'
    refine (if_neg op6).trans ?_
    by_cases op7 : (xs (nI i).toNatClampNeg) &&& (15 : Int32) = (7 : Int32)
    · refine (if_pos op7).trans ?_
      have ew1 := hI.2.2.1
      have ew2 := hI.2.2.2.1
      obtain ⟨r', up', cw', b1', b2', iu', en', ek', es', ew', ev', pa', we', vo', sa', lo', qs', ql', qt', qw', qv', qn', ho, us', me', rc', dn', lf', ms', mu', ml', c1', c2', mpa', mwe', mli', mvo', mpl', hq, hI'⟩ := sim_recover h64 hnb hI ek es ew ev mpl
      rw [ho, Option.bind_some]
      dsimp only
      rw [hq, Option.bind_some]
      dsimp only
      rw [if_pos rfl, ew1, ew2]
      exact nxt (by omega) hI'
    refine (if_neg op7).trans ?_
    by_cases op8 : (xs (nI i).toNatClampNeg) &&& (15 : Int32) = (8 : Int32)
    · refine (if_pos op8).trans ?_
      refine (if_pos i1).trans ?_
      refine (if_pos i2).trans ?_
      obtain ⟨x, ho, hq⟩ := sim_octet hnb b1 b2 (xs (nI i + (1 : Int32)).toNatClampNeg) (xs (nI i + (2 : Int32)).toNatClampNeg)
      have hc1 : c1 = b1 := hI.1
      have hc2 : c2 = b2 := hI.2.1
      rw [← hc1, ← hc2] at hq
      rw [ho, Option.bind_some, hq, Option.bind_some, if_pos rfl]
      exact nxt (Nat.le_refl _) hI1
    refine (if_neg op8).trans ?_
    by_cases op9 : (xs (nI i).toNatClampNeg) &&& (15 : Int32) = (9 : Int32)
    · refine (if_pos op9).trans ?_
      refine (if_pos i1).trans ?_
      refine (if_pos i2).trans ?_
      obtain ⟨x, ho, hq⟩ := sim_sample hI (xs (nI i + (1 : Int32)).toNatClampNeg) (xs (nI i + (2 : Int32)).toNatClampNeg)
      rw [ho, Option.bind_some, hq, Option.bind_some, if_pos rfl]
      exact nxt (Nat.le_refl _) hI1
    refine (if_neg op9).trans ?_
    by_cases op10 : (xs (nI i).toNatClampNeg) &&& (15 : Int32) = (10 : Int32)
    · refine (if_pos op10).trans ?_
      refine (if_pos i1).trans ?_
      obtain ⟨x, ho, hq⟩ := sim_volume hI (xs (nI i + (1 : Int32)).toNatClampNeg)
      rw [ho, Option.bind_some, hq, Option.bind_some, if_pos ((lg_cmp_eq x x).mpr rfl)]
      exact nxt (Nat.le_refl _) hI1
    refine (if_neg op10).trans ?_
    by_cases op11 : (xs (nI i).toNatClampNeg) &&& (15 : Int32) = (11 : Int32)
    · refine (if_pos op11).trans ?_
      refine (if_pos i1).trans ?_
      obtain ⟨x, ho, hq⟩ := sim_well hI (xs (nI i + (1 : Int32)).toNatClampNeg)
      rw [ho, Option.bind_some, hq, Option.bind_some, if_pos rfl]
      exact nxt (Nat.le_refl _) hI1
    refine (if_neg op11).trans ?_
    by_cases op12 : (xs (nI i).toNatClampNeg) &&& (15 : Int32) = (12 : Int32)
    · refine (if_pos op12).trans ?_
      refine (if_pos i1).trans ?_
      refine (if_pos i2).trans ?_
      obtain ⟨x, fm', ho, hq⟩ := sim_total hI fm (xs (nI i + (1 : Int32)).toNatClampNeg) (xs (nI i + (2 : Int32)).toNatClampNeg)
      rw [ho, Option.bind_some]
      dsimp only
      rw [hq, Option.bind_some, if_pos ((lg_cmp_eq x x).mpr rfl)]
      exact nxt (Nat.le_refl _) hI1
    refine (if_neg op12).trans ?_
    by_cases op13 : (xs (nI i).toNatClampNeg) &&& (15 : Int32) = (13 : Int32)
    · refine (if_pos op13).trans ?_
      refine (if_pos i1).trans ?_
      obtain ⟨x, ho, hq⟩ := sim_count h64 hnb hI (xs (nI i + (1 : Int32)).toNatClampNeg)
      rw [ho, Option.bind_some, hq, Option.bind_some, if_pos rfl]
      exact nxt (Nat.le_refl _) hI1
    refine (if_neg op13).trans ?_
    exact nxt (Nat.le_refl _) hI1
