/-! 59.register -/
theorem vol_arith (y lo p : Int64) (hy : 0 ≤ y.toInt) (hl : 0 ≤ lo.toInt) {S : Int} (hS : y.toInt + lo.toInt = S) (hS2 : S < 9223372036854775808) (hp : 1 ≤ p.toInt) : ((lg_cmp (y + lo) ((9223372036854775807 : Int64) - p) ≤ 0) ↔ p ≤ (9223372036854775807 : Int64) - y - lo) ∧ (p ≤ (9223372036854775807 : Int64) - y - lo → S + p.toInt < 9223372036854775808) := by
  have hmx : (9223372036854775807 : Int64).toInt = 9223372036854775807 := by decide
  have hp2 : p.toInt < 9223372036854775808 := Int64.toInt_lt p
  have a1 : (y + lo).toInt = y.toInt + lo.toInt := add64 (by omega) (by omega)
  have a2 : ((9223372036854775807 : Int64) - p).toInt = 9223372036854775807 - p.toInt := by
    rw [sub64 (by rw [hmx]; omega) (by rw [hmx]; omega), hmx]
  have a3 : ((9223372036854775807 : Int64) - y).toInt = 9223372036854775807 - y.toInt := by
    rw [sub64 (by rw [hmx]; omega) (by rw [hmx]; omega), hmx]
  have a4 : ((9223372036854775807 : Int64) - y - lo).toInt = 9223372036854775807 - y.toInt - lo.toInt := by
    rw [sub64 (by rw [a3]; omega) (by rw [a3]; omega), a3]
  rw [lg_cmp_le, Int64.le_iff_toInt_le, Int64.le_iff_toInt_le, a1, a2, a4]
  constructor
  · constructor <;> intro h <;> omega
  · intro h; omega
theorem sim_register {nb g : Nat} {en : Int32} {up cw : Bool} {bl wr fa : Int32} {b1 b2 : Nat → Int32} {sa : Int32} {lo : Int64} {pa we : Nat → Int32} {vo : Nat → Int64} {qn : Int32} {qs : Nat → Int32} {ql : Nat → Int64} {qt qw : Nat → Int32} {qv : Nat → Int64} {iu me : Int32} {dn : Bool} {lf mw mf ms mu : Int32} {ml : Int64} {c1 c2 mpa mwe mli : Nat → Int32} {mvo : Nat → Int64} {us : Int32} (h64 : 64 ≤ nb) (hnb : nb ≤ 2048) (hI : Inv nb g en up cw bl wr fa b1 b2 sa lo pa we vo qn qs ql qt qw qv iu me dn lf mw mf ms mu ml c1 c2 mpa mwe mli mvo us) (k1 k2 pb : Nat) (pos crc rc mz : Int32) (mro mpl : Nat → Int32) (p1 : Int32) (p2 : Int64) : OpRes nb g iu us (fX8_register k1 k2 up cw bl wr fa pb pos crc nb b1 b2 iu en pa we vo sa lo qs ql qt qw qv qn p1 p2) (fX9_register nb (nI nb) us me rc dn lf mw mf ms mu ml mz c1 c2 mpa mwe mli mvo mro mpl p1 p2) := by
  obtain ⟨rfl, rfl, rfl, rfl, rfl, ⟨n0, hn0, hsa0⟩, ⟨l, hLF, hl, rfl, hnl⟩, v, β, γ, rs, hγ, rfl, rfl, hG, hU⟩ := id hI
  cases up
  · obtain ⟨y, hy⟩ := clv_any hn0 vo
    unfold fX8_register fX9_register fX7_volumeStillAllowed
    have hr : ∀ a, fX8_refusalOfNewSample false nb en (1 : Int32) p1 p2 we sa (1 : Int32) a = some (-1 : Int32) := by
      intro a
      unfold fX8_refusalOfNewSample fX8_refusalOfWell
      rw [if_pos (show zb false = 0 from rfl), Option.bind_some, if_neg (by decide)]
    rw [show fX7_liveVolume vo sa = some y from by rw [hsa0]; exact hy, Option.bind_some, Option.bind_some, hr, Option.bind_some, co_ref (p := -1) (by decide), Option.bind_some, if_neg (show ¬ zb (!false) = 0 by decide)]
    dsimp only
    rw [if_neg (by decide)]
    exact OpRes.same hI (-1) pb pos crc 1 0 p1 p2 rc mz mro mpl
  ·
    obtain ⟨rfl, rfl, rfl, rfl, hz, hC, hM, rfl⟩ := hU rfl
    have hWs := val_wf rs hG.2.2.2.2.1
    have hn := run_le _ hWs
    have hso := hWs.sum
    have hen := hG.2.2.2.2.2.1
    have hsa := hC.1
    have hTA := hC.2.2.2.1
    have hlo := hC.2.1
    have hqn := hC.2.2.1
    have hms := hM.1
    have hml := hM.2.1
    have hocc : ∃ x, (wlB p1 = true → fX7_sampleIn we sa p1 = some x) ∧ (wlB p1 = true → fX9_liveIn ms mwe mli p1 = some x) := by
      cases hw : wlB p1
      · exact ⟨0, (fun h => by cases h), (fun h => by cases h)⟩
      · obtain ⟨x, q1, q2⟩ := occ_ok hn hTA hM hw
        rw [← hsa] at q1
        exact ⟨x, fun _ => q1, fun _ => q2⟩
    obtain ⟨x, hx1, hx2⟩ := hocc
    obtain ⟨y, hy1, hy2, hy3, hy4⟩ := lv_ok hn hso hTA hM
    unfold fX8_register fX9_register fX7_volumeStillAllowed
    have hx1' : wlB p1 = true → fX7_sampleIn we (nI (run (svs rs)).1) p1 = some x := by rw [← hsa]; exact hx1
    have hN := refN_ok hnb hen (k := 1) (by omega) (by omega) hn (ek := (1 : Int32)) rfl p1 p2 we (1 : Int32) ((9223372036854775807 : Int64) - y - lo) hx1'
    rw [← hsa] at hN
    rw [if_pos (show zb (!true) = 0 from rfl), show fX7_liveVolume vo sa = some y from by rw [hsa]; exact hy1, Option.bind_some, Option.bind_some, hN, Option.bind_some, mwell, Option.bind_some, if_neg (show ¬ (1 : Int32) = 0 by decide)]
    cases hw : wlB p1
    · rw [if_pos rfl, co_ref (p := -2) (by decide), Option.bind_some, if_pos (show zb false = 0 from rfl)]
      dsimp only
      rw [if_neg (by decide)]
      exact OpRes.same hI (-2) pb pos crc 1 0 p1 p2 rc mz mro mpl
    · rw [if_neg (show ¬ true = false by decide), if_neg (show ¬ zb true = 0 by decide), hx2 hw, Option.bind_some]
      obtain ⟨w, hw48, rfl⟩ := wlB_true hw
      by_cases hxx : x = -1
      · rw [if_neg (show ¬ ¬ x = -1 from fun h => h hxx), if_pos hxx]
        by_cases hp1 : p2 < 1
        · rw [if_pos hp1, co_ref (p := -4) (by decide), Option.bind_some, if_pos ((lg_cmp_lt p2 1).mpr hp1)]
          dsimp only
          rw [if_neg (by decide)]
          exact OpRes.same hI (-4) pb pos crc 1 0 (nI w) p2 rc mz mro mpl
        · rw [if_neg hp1, if_neg (fun h => hp1 ((lg_cmp_lt p2 1).mp h)), hy2, Option.bind_some]
          have h1v : 1 ≤ p2.toInt := by
            rw [Int64.lt_iff_toInt_lt] at hp1
            have : (1 : Int64).toInt = 1 := by decide
            omega
          have har := vol_arith y (run (svs rs)).2.2.2.2 p2 hy3 hso.2.1 hy4 hso.2.2 h1v
          rw [← hlo] at har
          have hmlo : ml = lo := hml.trans hlo.symm
          by_cases hpv : p2 ≤ (9223372036854775807 : Int64) - y - lo
          · rw [if_neg (show ¬ ¬ _ from fun h => h hpv), if_pos (show lg_cmp (y + ml) ((9223372036854775807 : Int64) - p2) ≤ 0 from by rw [hmlo]; exact har.1.mpr hpv)]
            by_cases hfull : (run (svs rs)).1 = 120
            · rw [if_pos hfull, co_ref (p := -5) (by decide), Option.bind_some, if_pos (show ms = (120 : Int32) by rw [hms, hfull]; rfl)]
              dsimp only
              rw [if_neg (by decide)]
              exact OpRes.same hI (-5) pb pos crc 1 0 (nI w) p2 rc mz mro mpl
            · rw [if_neg hfull, if_neg (show ¬ ms = (120 : Int32) from fun h => hfull ((nI_eq (b := 120) (by omega) (by omega)).mp (hms.symm.trans h)))]
              have hrm : fX9_hasRoom (nI nb) (nI (endR rs)) (1 : Int32) = _ := room_m hnb hen (k := 1) (by omega) (by omega)
              rw [hrm, Option.bind_some]
              by_cases hroom : nb < endR rs + lenN 1
              · rw [if_pos hroom, decide_eq_true hroom, co_ref (p := -6) (by decide), Option.bind_some, if_pos (show zb (!true) = 0 from rfl)]
                dsimp only
                rw [if_neg (by decide)]
                exact OpRes.same hI (-6) pb pos crc 1 0 (nI w) p2 rc mz mro mpl
              · rw [if_neg hroom, decide_eq_false hroom, if_neg (show ¬ zb (!false) = 0 by decide)]
                obtain ⟨z1, r1, z2, r2, r3, a1, a2, a3, hrow⟩ := row1 mro (w := w) (by omega) p2
                have h2v := har.2 hpv
                obtain ⟨ans, up', cw', bl', wr', fa', pb', pos', crc', b1', b2', en', pa', we', vo', sa', lo', qs', ql', qt', qw', qv', qn', ho, ok, me', rc', dn', lf', mw', mf', ms', mu', ml', mz', c1', c2', mpa', mwe', mli', mvo', mro', mpl', hq, hans, hI'⟩ := act_ok' h64 hnb k1 k2 (v := v) hγ hG hz hC hM 1 0 w p2 (.inl ⟨rfl, rfl, hw48, by omega, h1v, h2v⟩) (by omega) hLF hl _ _ pb pos crc rc (nI (uc (svs rs))) hrow mpl (ek := 1) (es := 0) (ew := (nI w)) rfl rfl rfl rfl
                rw [ho, Option.bind_some, a1, Option.bind_some]
                dsimp only
                rw [a2, Option.bind_some]
                dsimp only
                rw [a3, Option.bind_some]
                dsimp only
                rw [show (!true) = false from rfl, hq, Option.bind_some]
                dsimp only
                rcases hans with ⟨rfl, rfl, e1, e2⟩ | ⟨rfl, rfl⟩
                · rw [if_neg (show ¬ zb true = 0 by decide), if_pos rfl]
                  subst e1
                  exact ⟨_, _, _, _, _, _, _, _, _, _, _, _, _, _, _, _, _, _, _, _, _, _, _, _, _, _, _, rfl, _, _, _, _, _, _, _, _, _, _, _, _, _, _, _, _, _, _, rfl, hI'⟩
                · rw [if_pos (show zb false = 0 from rfl), if_neg (by decide)]
                  exact ⟨_, _, _, _, _, _, _, _, _, _, _, _, _, _, _, _, _, _, _, _, _, _, _, _, _, _, _, rfl, _, _, _, _, _, _, _, _, _, _, _, _, _, _, _, _, _, _, rfl, hI'⟩
          · rw [if_pos hpv, co_ref (p := -4) (by decide), Option.bind_some, if_neg (show ¬ lg_cmp (y + ml) ((9223372036854775807 : Int64) - p2) ≤ 0 from by rw [hmlo]; exact fun h => hpv (har.1.mp h))]
            dsimp only
            rw [if_neg (by decide)]
            exact OpRes.same hI (-4) pb pos crc 1 0 (nI w) p2 rc mz mro mpl
      · rw [if_pos hxx, co_ref (p := -3) (by decide), Option.bind_some, if_neg hxx]
        dsimp only
        rw [if_neg (by decide)]
        exact OpRes.same hI (-3) pb pos crc 1 0 (nI w) p2 rc mz mro mpl
