/-! 58.ops2: move, undo, aliquot, register -/
theorem cvol_any (vo : Nat → Int64) {n : Nat} (hn : n ≤ 120) (p : Int32) : ∃ b, fX7_volumeOf vo (nI n) p = some b := by
  rcases i32_cases p with h | ⟨k, h1, hk, rfl⟩
  · unfold fX7_volumeOf
    rw [isSample_neg _ h, Option.bind_some, if_pos (show zb false = 0 from rfl)]
    exact ⟨_, rfl⟩
  · exact ⟨_, volumeOf_ok hn hk⟩
theorem sim_move {nb g : Nat} {en : Int32} {up cw : Bool} {bl wr fa : Int32} {b1 b2 : Nat → Int32} {sa : Int32} {lo : Int64} {pa we : Nat → Int32} {vo : Nat → Int64} {qn : Int32} {qs : Nat → Int32} {ql : Nat → Int64} {qt qw : Nat → Int32} {qv : Nat → Int64} {iu me : Int32} {dn : Bool} {lf mw mf ms mu : Int32} {ml : Int64} {c1 c2 mpa mwe mli : Nat → Int32} {mvo : Nat → Int64} {us : Int32} (h64 : 64 ≤ nb) (hnb : nb ≤ 2048) (hI : Inv nb g en up cw bl wr fa b1 b2 sa lo pa we vo qn qs ql qt qw qv iu me dn lf mw mf ms mu ml c1 c2 mpa mwe mli mvo us) (k1 k2 pb : Nat) (pos crc rc mz : Int32) (mro mpl : Nat → Int32) (p1 p2 : Int32) : OpRes nb g iu us (fX8_move k1 k2 up cw bl wr fa pb pos crc nb b1 b2 iu en pa we vo sa lo qs ql qt qw qv qn p1 p2) (fX9_move nb (nI nb) us me rc dn lf mw mf ms mu ml mz c1 c2 mpa mwe mli mvo mro mpl p1 p2) := by
  obtain ⟨rfl, rfl, rfl, rfl, rfl, ⟨n0, hn0, hsa0⟩, ⟨l, hLF, hl, rfl, hnl⟩, v, β, γ, rs, hγ, rfl, rfl, hG, hU⟩ := id hI
  cases up
  · obtain ⟨b, hb⟩ := clive_any we hn0 p1
    unfold fX8_move fX9_move
    rw [hsa0, hb, Option.bind_some, ← hsa0]
    have hr : fX8_refusalOfWell false p2 we sa (zb b) = some (-1 : Int32) := by
      unfold fX8_refusalOfWell
      rw [if_pos (show zb false = 0 from rfl)]
    rw [hr, Option.bind_some, if_neg (by decide), co_ref (p := -1) (by decide), Option.bind_some, if_neg (show ¬ zb (!false) = 0 by decide)]
    exact OpRes.same hI (-1) pb pos crc 3 p1 p2 0 rc mz mro mpl
  ·
    obtain ⟨rfl, rfl, rfl, rfl, hz, hC, hM, rfl⟩ := hU rfl
    have hWs := val_wf rs hG.2.2.2.2.1
    have hn := run_le _ hWs
    have hso := hWs.sum
    have hen := hG.2.2.2.2.2.1
    have hsa := hC.1
    have hTA := hC.2.2.2.1
    have hlo := hC.2.1
    have hqn := hC.2.2.1
    have hms := hM.1
    have hml := hM.2.1
    have hocc : ∃ x, (wlB p2 = true → fX7_sampleIn we sa p2 = some x) ∧ (wlB p2 = true → fX9_liveIn ms mwe mli p2 = some x) := by
      cases hw : wlB p2
      · exact ⟨0, (fun h => by cases h), (fun h => by cases h)⟩
      · obtain ⟨x, q1, q2⟩ := occ_ok hn hTA hM hw
        rw [← hsa] at q1
        exact ⟨x, fun _ => q1, fun _ => q2⟩
    obtain ⟨x, hx1, hx2⟩ := hocc
    unfold fX8_move fX9_move
    rw [if_pos (show zb (!true) = 0 from rfl), show fX7_isLive we sa p1 = some (lvB (run (svs rs)) p1) from by rw [hsa]; exact clive hn hTA p1, Option.bind_some, mlive hn hM, Option.bind_some, refW_ok p2 we sa _ hx1, Option.bind_some]
    cases hlv : lvB (run (svs rs)) p1
    · rw [if_pos (show zb false = 0 from rfl), if_neg (by decide), co_ref (p := -2) (by decide), Option.bind_some, if_pos (show zb false = 0 from rfl)]
      exact OpRes.same hI (-2) pb pos crc 3 p1 p2 0 rc mz mro mpl
    · rw [if_neg (show ¬ zb true = 0 by decide), if_neg (show ¬ zb true = 0 by decide), mwell, Option.bind_some]
      obtain ⟨s, hs1, hs2, rfl, hlive⟩ := lvB_true hlv
      cases hw : wlB p2
      · rw [if_pos rfl, if_neg (by decide), co_ref (p := -2) (by decide), Option.bind_some, if_pos (show zb false = 0 from rfl)]
        exact OpRes.same hI (-2) pb pos crc 3 (nI s) p2 0 rc mz mro mpl
      · rw [if_neg (show ¬ true = false by decide), if_neg (show ¬ zb true = 0 by decide), hx2 hw, Option.bind_some]
        obtain ⟨w, hw48, rfl⟩ := wlB_true hw
        by_cases hxx : x = -1
        · rw [if_pos hxx, if_pos rfl, if_pos hxx]
          have hrc : fX8_refusalOfRoom nb (nI (endR rs)) (3 : Int32) = _ := room_c hnb hen (k := 3) (by omega) (by omega)
          have hrm : fX9_hasRoom (nI nb) (nI (endR rs)) (3 : Int32) = _ := room_m hnb hen (k := 3) (by omega) (by omega)
          rw [hrc, Option.bind_some, hrm, Option.bind_some]
          by_cases hroom : nb < endR rs + lenN 3
          · rw [if_pos hroom, decide_eq_true hroom, co_ref (p := -6) (by decide), Option.bind_some, if_pos (show zb (!true) = 0 from rfl)]
            exact OpRes.same hI (-6) pb pos crc 3 (nI s) (nI w) 0 rc mz mro mpl
          · rw [if_neg hroom, decide_eq_false hroom, if_neg (show ¬ zb (!false) = 0 by decide)]
            obtain ⟨z1, r1, z2, r2, r3, a1, a2, a3, hrow⟩ := row3 mro (s := s) (w := w) (by omega) (by omega)
            obtain ⟨ans, up', cw', bl', wr', fa', pb', pos', crc', b1', b2', en', pa', we', vo', sa', lo', qs', ql', qt', qw', qv', qn', ho, ok, me', rc', dn', lf', mw', mf', ms', mu', ml', mz', c1', c2', mpa', mwe', mli', mvo', mro', mpl', hq, hans, hI'⟩ := act_ok' h64 hnb k1 k2 (v := v) hγ hG hz hC hM 3 s w 0 (.inr (.inr (.inl ⟨rfl, ⟨hs1, hs2⟩, hw48, rfl, hlive⟩))) (by omega) hLF hl _ _ pb pos crc rc (nI (uc (svs rs))) hrow mpl (ek := 3) (es := (nI s)) (ew := (nI w)) rfl rfl rfl rfl
            rw [ho, Option.bind_some, a1, Option.bind_some]
            dsimp only
            rw [a2, Option.bind_some]
            dsimp only
            rw [a3, Option.bind_some]
            dsimp only
            rw [show (!true) = false from rfl, hq, Option.bind_some]
            dsimp only
            rcases hans with ⟨rfl, rfl, e1, e2⟩ | ⟨rfl, rfl⟩
            · rw [if_neg (show ¬ zb true = 0 by decide)]
              exact ⟨_, _, _, _, _, _, _, _, _, _, _, _, _, _, _, _, _, _, _, _, _, _, _, _, _, _, _, rfl, _, _, _, _, _, _, _, _, _, _, _, _, _, _, _, _, _, _, rfl, hI'⟩
            · rw [if_pos (show zb false = 0 from rfl)]
              exact ⟨_, _, _, _, _, _, _, _, _, _, _, _, _, _, _, _, _, _, _, _, _, _, _, _, _, _, _, rfl, _, _, _, _, _, _, _, _, _, _, _, _, _, _, _, _, _, _, rfl, hI'⟩
        · rw [if_neg hxx, if_neg (by decide), co_ref (p := -3) (by decide), Option.bind_some, if_neg hxx]
          exact OpRes.same hI (-3) pb pos crc 3 (nI s) (nI w) 0 rc mz mro mpl
theorem sim_undo {nb g : Nat} {en : Int32} {up cw : Bool} {bl wr fa : Int32} {b1 b2 : Nat → Int32} {sa : Int32} {lo : Int64} {pa we : Nat → Int32} {vo : Nat → Int64} {qn : Int32} {qs : Nat → Int32} {ql : Nat → Int64} {qt qw : Nat → Int32} {qv : Nat → Int64} {iu me : Int32} {dn : Bool} {lf mw mf ms mu : Int32} {ml : Int64} {c1 c2 mpa mwe mli : Nat → Int32} {mvo : Nat → Int64} {us : Int32} (h64 : 64 ≤ nb) (hnb : nb ≤ 2048) (hI : Inv nb g en up cw bl wr fa b1 b2 sa lo pa we vo qn qs ql qt qw qv iu me dn lf mw mf ms mu ml c1 c2 mpa mwe mli mvo us) (k1 k2 pb : Nat) (pos crc rc mz : Int32) (mro mpl : Nat → Int32)  : OpRes nb g iu us (fX8_undo k1 k2 up cw bl wr fa pb pos crc nb b1 b2 iu en pa we vo sa lo qs ql qt qw qv qn) (fX9_undo nb (nI nb) us me rc dn lf mw mf ms mu ml mz c1 c2 mpa mwe mli mvo mro mpl) := by
  obtain ⟨rfl, rfl, rfl, rfl, rfl, ⟨n0, hn0, hsa0⟩, ⟨l, hLF, hl, rfl, hnl⟩, v, β, γ, rs, hγ, rfl, rfl, hG, hU⟩ := id hI
  cases up
  · exact OpRes.same hI (-1) pb pos crc 5 0 0 0 rc mz mro mpl
  ·
    obtain ⟨rfl, rfl, rfl, rfl, hz, hC, hM, rfl⟩ := hU rfl
    have hWs := val_wf rs hG.2.2.2.2.1
    have hn := run_le _ hWs
    have hso := hWs.sum
    have hen := hG.2.2.2.2.2.1
    have hsa := hC.1
    have hTA := hC.2.2.2.1
    have hlo := hC.2.1
    have hqn := hC.2.2.1
    have hms := hM.1
    have hml := hM.2.1
    have hul := uc_le (svs rs)
    have hsl := svs_len rs
    have hel := endR_len rs
    unfold fX8_undo fX9_undo
    have hrc : fX8_refusalOfRoom nb (nI (endR rs)) (5 : Int32) = _ := room_c hnb hen (k := 5) (by omega) (by omega)
    have hrm : fX9_hasRoom (nI nb) (nI (endR rs)) (5 : Int32) = _ := room_m hnb hen (k := 5) (by omega) (by omega)
    rw [if_neg (show ¬ zb true = 0 by decide), if_pos (show zb (!true) = 0 from rfl), hrc, Option.bind_some, hrm, Option.bind_some]
    by_cases hroom : nb < endR rs + lenN 5
    · rw [if_pos hroom, decide_eq_true hroom, if_neg (by decide), co_ref (p := -6) (by decide), Option.bind_some, if_pos (show zb (!true) = 0 from rfl)]
      exact OpRes.same hI (-6) pb pos crc 5 0 0 0 rc mz mro mpl
    · rw [if_neg hroom, decide_eq_false hroom, if_pos rfl, if_neg (show ¬ zb (!false) = 0 by decide)]
      by_cases hu0 : uc (svs rs) = 0
      · have hq0 : qn = 0 := by rw [hqn, hu0]; rfl
        rw [if_pos hq0, co_ref (p := -7) (by decide), Option.bind_some, if_pos (show nI (uc (svs rs)) = 0 by rw [hu0]; rfl)]
        exact OpRes.same hI (-7) pb pos crc 5 0 0 0 rc mz mro mpl
      · have hq0 : ¬ qn = 0 := by rw [hqn]; exact nI_ne0 (by omega) (by omega)
        rw [if_neg hq0, if_neg (nI_ne0 (by omega) (by omega))]
        obtain ⟨r1, a1, hrow⟩ := row5 mro
        obtain ⟨ans, up', cw', bl', wr', fa', pb', pos', crc', b1', b2', en', pa', we', vo', sa', lo', qs', ql', qt', qw', qv', qn', ho, ok, me', rc', dn', lf', mw', mf', ms', mu', ml', mz', c1', c2', mpa', mwe', mli', mvo', mro', mpl', hq, hans, hI'⟩ := act_ok' h64 hnb k1 k2 (v := v) hγ hG hz hC hM 5 0 0 0 (.inr (.inr (.inr (.inr (.inl ⟨rfl, by omega, rfl, rfl, rfl⟩))))) (by omega) hLF hl _ _ pb pos crc rc (nI (uc (svs rs))) hrow mpl (ek := 5) (es := 0) (ew := 0) rfl rfl rfl rfl
        rw [ho, Option.bind_some, a1, Option.bind_some]
        dsimp only
        rw [show (!true) = false from rfl, hq, Option.bind_some]
        dsimp only
        rcases hans with ⟨rfl, rfl, e1, e2⟩ | ⟨rfl, rfl⟩
        · rw [if_neg (show ¬ zb true = 0 by decide), if_pos rfl]
          subst e2
          exact ⟨_, _, _, _, _, _, _, _, _, _, _, _, _, _, _, _, _, _, _, _, _, _, _, _, _, _, _, rfl, _, _, _, _, _, _, _, _, _, _, _, _, _, _, _, _, _, _, rfl, hI'⟩
        · rw [if_pos (show zb false = 0 from rfl), if_neg (by decide)]
          exact ⟨_, _, _, _, _, _, _, _, _, _, _, _, _, _, _, _, _, _, _, _, _, _, _, _, _, _, _, rfl, _, _, _, _, _, _, _, _, _, _, _, _, _, _, _, _, _, _, rfl, hI'⟩
theorem sim_aliquot {nb g : Nat} {en : Int32} {up cw : Bool} {bl wr fa : Int32} {b1 b2 : Nat → Int32} {sa : Int32} {lo : Int64} {pa we : Nat → Int32} {vo : Nat → Int64} {qn : Int32} {qs : Nat → Int32} {ql : Nat → Int64} {qt qw : Nat → Int32} {qv : Nat → Int64} {iu me : Int32} {dn : Bool} {lf mw mf ms mu : Int32} {ml : Int64} {c1 c2 mpa mwe mli : Nat → Int32} {mvo : Nat → Int64} {us : Int32} (h64 : 64 ≤ nb) (hnb : nb ≤ 2048) (hI : Inv nb g en up cw bl wr fa b1 b2 sa lo pa we vo qn qs ql qt qw qv iu me dn lf mw mf ms mu ml c1 c2 mpa mwe mli mvo us) (k1 k2 pb : Nat) (pos crc rc mz : Int32) (mro mpl : Nat → Int32) (p1 p2 : Int32) (p3 : Int64) : OpRes nb g iu us (fX8_aliquot k1 k2 up cw bl wr fa pb pos crc nb b1 b2 iu en pa we vo sa lo qs ql qt qw qv qn p1 p2 p3) (fX9_aliquot nb (nI nb) us me rc dn lf mw mf ms mu ml mz c1 c2 mpa mwe mli mvo mro mpl p1 p2 p3) := by
  obtain ⟨rfl, rfl, rfl, rfl, rfl, ⟨n0, hn0, hsa0⟩, ⟨l, hLF, hl, rfl, hnl⟩, v, β, γ, rs, hγ, rfl, rfl, hG, hU⟩ := id hI
  cases up
  · obtain ⟨b, hb⟩ := clive_any we hn0 p1
    obtain ⟨y, hy⟩ := cvol_any vo hn0 p1
    unfold fX8_aliquot fX9_aliquot
    have hr : fX8_refusalOfNewSample false nb en (2 : Int32) p2 p3 we sa (zb b) y = some (-1 : Int32) := by
      unfold fX8_refusalOfNewSample fX8_refusalOfWell
      rw [if_pos (show zb false = 0 from rfl), Option.bind_some, if_neg (by decide)]
    rw [show fX7_isLive we sa p1 = some b from by rw [hsa0]; exact hb, Option.bind_some, show fX7_volumeOf vo sa p1 = some y from by rw [hsa0]; exact hy, Option.bind_some, hr, Option.bind_some, co_ref (p := -1) (by decide), Option.bind_some, if_neg (show ¬ zb (!false) = 0 by decide)]
    dsimp only
    rw [if_neg (by decide)]
    exact OpRes.same hI (-1) pb pos crc 2 p1 p2 p3 rc mz mro mpl
  ·
    obtain ⟨rfl, rfl, rfl, rfl, hz, hC, hM, rfl⟩ := hU rfl
    have hWs := val_wf rs hG.2.2.2.2.1
    have hn := run_le _ hWs
    have hso := hWs.sum
    have hen := hG.2.2.2.2.2.1
    have hsa := hC.1
    have hTA := hC.2.2.2.1
    have hlo := hC.2.1
    have hqn := hC.2.2.1
    have hms := hM.1
    have hml := hM.2.1
    have hocc : ∃ x, (wlB p2 = true → fX7_sampleIn we sa p2 = some x) ∧ (wlB p2 = true → fX9_liveIn ms mwe mli p2 = some x) := by
      cases hw : wlB p2
      · exact ⟨0, (fun h => by cases h), (fun h => by cases h)⟩
      · obtain ⟨x, q1, q2⟩ := occ_ok hn hTA hM hw
        rw [← hsa] at q1
        exact ⟨x, fun _ => q1, fun _ => q2⟩
    obtain ⟨x, hx1, hx2⟩ := hocc
    obtain ⟨y, hy⟩ := cvol_any vo hn0 p1
    have hy : fX7_volumeOf vo sa p1 = some y := by rw [hsa0]; exact hy
    unfold fX8_aliquot fX9_aliquot
    have hx1' : wlB p2 = true → fX7_sampleIn we (nI (run (svs rs)).1) p2 = some x := by rw [← hsa]; exact hx1
    have hN := fun p => refN_ok hnb hen (k := 2) (by omega) (by omega) hn (ek := (2 : Int32)) rfl p2 p3 we p y hx1'
    rw [← hsa] at hN
    rw [if_pos (show zb (!true) = 0 from rfl), show fX7_isLive we sa p1 = some (lvB (run (svs rs)) p1) from by rw [hsa]; exact clive hn hTA p1, Option.bind_some, hy, Option.bind_some, mlive hn hM, Option.bind_some, hN, Option.bind_some]
    cases hlv : lvB (run (svs rs)) p1
    · rw [if_pos (show zb false = 0 from rfl), co_ref (p := -2) (by decide), Option.bind_some, if_pos (show zb false = 0 from rfl)]
      dsimp only
      rw [if_neg (by decide)]
      exact OpRes.same hI (-2) pb pos crc 2 p1 p2 p3 rc mz mro mpl
    · rw [if_neg (show ¬ zb true = 0 by decide), if_neg (show ¬ zb true = 0 by decide), mwell, Option.bind_some]
      obtain ⟨s, hs1, hs2, rfl, hlive⟩ := lvB_true hlv
      have hys : y = (run (svs rs)).2.2.2.1 s := by
        rw [hsa, volumeOf_ok hn (by omega), if_pos (show 1 ≤ s ∧ s ≤ (run (svs rs)).1 from ⟨hs1, hs2⟩)] at hy
        rw [← Option.some.inj hy]
        exact (hTA s hs1 hs2).2.2
      have hmv : mvo s = y := by rw [hys]; exact (hM.2.2 s hs1 hs2).2.1
      cases hw : wlB p2
      · rw [if_pos rfl, co_ref (p := -2) (by decide), Option.bind_some, if_pos (show zb false = 0 from rfl)]
        dsimp only
        rw [if_neg (by decide)]
        exact OpRes.same hI (-2) pb pos crc 2 (nI s) p2 p3 rc mz mro mpl
      · rw [if_neg (show ¬ true = false by decide), if_neg (show ¬ zb true = 0 by decide), hx2 hw, Option.bind_some]
        obtain ⟨w, hw48, rfl⟩ := wlB_true hw
        by_cases hxx : x = -1
        · rw [if_neg (show ¬ ¬ x = -1 from fun h => h hxx), if_pos hxx]
          by_cases hp1 : p3 < 1
          · rw [if_pos hp1, co_ref (p := -4) (by decide), Option.bind_some, if_pos ((lg_cmp_lt p3 1).mpr hp1)]
            dsimp only
            rw [if_neg (by decide)]
            exact OpRes.same hI (-4) pb pos crc 2 (nI s) (nI w) p3 rc mz mro mpl
          · rw [if_neg hp1, if_neg (fun h => hp1 ((lg_cmp_lt p3 1).mp h)), if_pos (ib_nI (by omega) (by omega)), nI_clamp (by omega), hmv]
            by_cases hpv : p3 ≤ y
            · rw [if_neg (show ¬ ¬ p3 ≤ y from fun h => h hpv), if_pos ((lg_cmp_le p3 y).mpr hpv)]
              by_cases hfull : (run (svs rs)).1 = 120
              · rw [if_pos hfull, co_ref (p := -5) (by decide), Option.bind_some, if_pos (show ms = (120 : Int32) by rw [hms, hfull]; rfl)]
                dsimp only
                rw [if_neg (by decide)]
                exact OpRes.same hI (-5) pb pos crc 2 (nI s) (nI w) p3 rc mz mro mpl
              · rw [if_neg hfull, if_neg (show ¬ ms = (120 : Int32) from fun h => hfull ((nI_eq (b := 120) (by omega) (by omega)).mp (hms.symm.trans h)))]
                have hrm : fX9_hasRoom (nI nb) (nI (endR rs)) (2 : Int32) = _ := room_m hnb hen (k := 2) (by omega) (by omega)
                rw [hrm, Option.bind_some]
                by_cases hroom : nb < endR rs + lenN 2
                · rw [if_pos hroom, decide_eq_true hroom, co_ref (p := -6) (by decide), Option.bind_some, if_pos (show zb (!true) = 0 from rfl)]
                  dsimp only
                  rw [if_neg (by decide)]
                  exact OpRes.same hI (-6) pb pos crc 2 (nI s) (nI w) p3 rc mz mro mpl
                · rw [if_neg hroom, decide_eq_false hroom, if_neg (show ¬ zb (!false) = 0 by decide)]
                  obtain ⟨z1, r1, z2, r2, z3, r3, r4, a1, a2, a3, a4, hrow⟩ := row26 mro (k := 2) (s := s) (w := w) (.inl rfl) (by omega) (by omega) p3
                  have a1 : fX9_begin mro (2 : Int32) = some (z1, r1) := a1
                  have h1v : 1 ≤ p3.toInt := by
                    rw [Int64.lt_iff_toInt_lt] at hp1
                    have : (1 : Int64).toInt = 1 := by decide
                    omega
                  have h2v : p3.toInt ≤ ((run (svs rs)).2.2.2.1 s).toInt := by
                    rw [← hys]
                    exact Int64.le_iff_toInt_le.mp hpv
                  obtain ⟨ans, up', cw', bl', wr', fa', pb', pos', crc', b1', b2', en', pa', we', vo', sa', lo', qs', ql', qt', qw', qv', qn', ho, ok, me', rc', dn', lf', mw', mf', ms', mu', ml', mz', c1', c2', mpa', mwe', mli', mvo', mro', mpl', hq, hans, hI'⟩ := act_ok' h64 hnb k1 k2 (v := v) hγ hG hz hC hM 2 s w p3 (.inr (.inl ⟨rfl, ⟨hs1, hs2⟩, hw48, by omega, h1v, h2v⟩)) (by omega) hLF hl _ _ pb pos crc rc (nI (uc (svs rs))) hrow mpl (ek := 2) (es := (nI s)) (ew := (nI w)) rfl rfl rfl rfl
                  rw [ho, Option.bind_some, a1, Option.bind_some]
                  dsimp only
                  rw [a2, Option.bind_some]
                  dsimp only
                  rw [a3, Option.bind_some]
                  dsimp only
                  rw [a4, Option.bind_some]
                  dsimp only
                  rw [show (!true) = false from rfl, hq, Option.bind_some]
                  dsimp only
                  rcases hans with ⟨rfl, rfl, e1, e2⟩ | ⟨rfl, rfl⟩
                  · rw [if_neg (show ¬ zb true = 0 by decide), if_pos rfl]
                    subst e1
                    exact ⟨_, _, _, _, _, _, _, _, _, _, _, _, _, _, _, _, _, _, _, _, _, _, _, _, _, _, _, rfl, _, _, _, _, _, _, _, _, _, _, _, _, _, _, _, _, _, _, rfl, hI'⟩
                  · rw [if_pos (show zb false = 0 from rfl), if_neg (by decide)]
                    exact ⟨_, _, _, _, _, _, _, _, _, _, _, _, _, _, _, _, _, _, _, _, _, _, _, _, _, _, _, rfl, _, _, _, _, _, _, _, _, _, _, _, _, _, _, _, _, _, _, rfl, hI'⟩
            · rw [if_pos hpv, co_ref (p := -4) (by decide), Option.bind_some, if_neg (fun h => hpv ((lg_cmp_le p3 y).mp h))]
              dsimp only
              rw [if_neg (by decide)]
              exact OpRes.same hI (-4) pb pos crc 2 (nI s) (nI w) p3 rc mz mro mpl
        · rw [if_pos hxx, co_ref (p := -3) (by decide), Option.bind_some, if_neg hxx]
          dsimp only
          rw [if_neg (by decide)]
          exact OpRes.same hI (-3) pb pos crc 2 (nI s) (nI w) p3 rc mz mro mpl
