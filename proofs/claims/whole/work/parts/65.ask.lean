/-! 65.ask: octet, volume, well, sample -/
theorem i32_nn {p : Int32} (h : ¬ p < 0) : ∃ k, k < 2 ^ 31 ∧ p = nI k := by
  rcases i32_cases p with q | ⟨k, h1, h2, e⟩
  · refine ⟨0, by omega, ?_⟩
    rw [Int32.lt_iff_toInt_lt] at h
    rw [Int32.le_iff_toInt_le] at q
    have e : (0 : Int32).toInt = 0 := by decide
    exact Int32.toInt_inj.mp (show p.toInt = (0 : Int32).toInt by omega)
  · exact ⟨k, h2, e⟩
theorem sim_octet {nb : Nat} (hnb : nb ≤ 2048) (b1 b2 : Nat → Int32) (p1 p2 : Int32) : ∃ x, fX8_octet nb b1 b2 p1 p2 = some x ∧ fX9_octet nb (nI nb) b1 b2 p1 p2 = some x := by
  unfold fX8_octet fX9_octet fX0_at
  by_cases h0 : p1 = 0
  · subst h0
    rw [if_pos rfl, if_neg (show ¬ (0 : Int32) < 0 by decide), if_neg (show ¬ (1 : Int32) < 0 by decide), if_pos rfl]
    by_cases hn : p2 < 0
    · rw [if_pos hn, if_pos hn]
      exact ⟨_, rfl, rfl⟩
    · rw [if_neg hn, if_neg hn]
      obtain ⟨k, hk, rfl⟩ := i32_nn hn
      by_cases hk2 : k < nb
      · rw [if_neg (nI_ge hk2 (by omega)), if_pos (nI_lt hk2 (by omega)), if_pos (ib_nI hk2 (by omega))]
        exact ⟨_, rfl, rfl⟩
      · rw [if_pos (nI_le (by omega) hk), if_neg (nI_nlt (by omega) hk)]
        exact ⟨_, rfl, rfl⟩
  · rw [if_neg h0]
    by_cases h1 : p1 = 1
    · subst h1
      rw [if_pos rfl, if_neg (show ¬ (1 : Int32) < 0 by decide), if_neg (show ¬ (1 : Int32) < 1 by decide), if_neg (show ¬ (1 : Int32) = 0 by decide), if_pos rfl]
      by_cases hn : p2 < 0
      · rw [if_pos hn, if_pos hn]
        exact ⟨_, rfl, rfl⟩
      · rw [if_neg hn, if_neg hn]
        obtain ⟨k, hk, rfl⟩ := i32_nn hn
        by_cases hk2 : k < nb
        · rw [if_neg (nI_ge hk2 (by omega)), if_pos (nI_lt hk2 (by omega)), if_pos (ib_nI hk2 (by omega))]
          exact ⟨_, rfl, rfl⟩
        · rw [if_pos (nI_le (by omega) hk), if_neg (nI_nlt (by omega) hk)]
          exact ⟨_, rfl, rfl⟩
    · rw [if_neg h1]
      by_cases hn : p1 < 0
      · rw [if_pos hn]
        exact ⟨_, rfl, rfl⟩
      · rw [if_neg hn]
        obtain ⟨k, hk, rfl⟩ := i32_nn hn
        have k0 : k ≠ 0 := fun e => h0 (by rw [e]; rfl)
        have k1 : k ≠ 1 := fun e => h1 (by rw [e]; rfl)
        rw [if_pos (show (1 : Int32) < nI k from nI_lt (a := 1) (by omega) hk)]
        exact ⟨_, rfl, rfl⟩
theorem here_ok {n : Nat} (hn : n ≤ 120) (p : Int32) : ∃ b, fX9_isHere false (nI n) p = some b ∧ fX7_isSample (nI n) p = some b ∧ (b = true → ∃ k, 1 ≤ k ∧ k ≤ n ∧ p = nI k) := by
  rcases i32_cases p with q | ⟨k, h1, h2, rfl⟩
  · refine ⟨false, ?_, isSample_neg _ q, fun h => by cases h⟩
    unfold fX9_isHere
    rw [if_pos (show zb false = 0 from rfl), if_pos q]
  · refine ⟨decide (1 ≤ k ∧ k ≤ n), ?_, isSample_ok hn h2, fun h => ?_⟩
    · unfold fX9_isHere
      rw [if_pos (show zb false = 0 from rfl), if_neg (nI_nle (by omega) h2)]
      by_cases hk : k ≤ n
      · rw [if_neg (nI_nlt hk (by omega)), decide_eq_true ⟨h1, hk⟩]
      · rw [if_pos (nI_lt (by omega) h2), decide_eq_false (fun h => hk h.2)]
    · have h := of_decide_eq_true h
      exact ⟨k, h.1, h.2, rfl⟩
theorem sim_volume {nb g : Nat} {en : Int32} {up cw : Bool} {bl wr fa : Int32} {b1 b2 : Nat → Int32} {sa : Int32} {lo : Int64} {pa we : Nat → Int32} {vo : Nat → Int64} {qn : Int32} {qs : Nat → Int32} {ql : Nat → Int64} {qt qw : Nat → Int32} {qv : Nat → Int64} {iu me : Int32} {dn : Bool} {lf mw mf ms mu : Int32} {ml : Int64} {c1 c2 mpa mwe mli : Nat → Int32} {mvo : Nat → Int64} {us : Int32} (hI : Inv nb g en up cw bl wr fa b1 b2 sa lo pa we vo qn qs ql qt qw qv iu me dn lf mw mf ms mu ml c1 c2 mpa mwe mli mvo us) (p1 : Int32) : ∃ x, fX8_volume up vo sa p1 = some x ∧ fX9_volume dn ms mvo p1 = some x := by
  obtain ⟨rfl, rfl, rfl, rfl, rfl, ⟨n0, hn0, hsa0⟩, ⟨l, hLF, hl, rfl, hnl⟩, v, β, γ, rs, hγ, rfl, rfl, hG, hU⟩ := id hI
  cases up
  · exact ⟨-1, rfl, rfl⟩
  ·
    obtain ⟨rfl, rfl, rfl, rfl, hz, hC, hM, rfl⟩ := hU rfl
    have hWs := val_wf rs hG.2.2.2.2.1
    have hn := run_le _ hWs
    have hso := hWs.sum
    have hT := hWs.tab
    obtain ⟨rfl, rfl, hqn, hTA, hPR⟩ := hC
    obtain ⟨rfl, rfl, hM3⟩ := id hM
    generalize ht : run (svs rs) = t at *
    unfold fX8_volume fX9_volume fX7_volumeOf
    obtain ⟨b, e1, e2, e3⟩ := here_ok hn p1
    rw [if_neg (show ¬ zb true = 0 by decide), show (!true) = false from rfl, e1, e2, Option.bind_some, Option.bind_some]
    cases b
    · exact ⟨-1, rfl, rfl⟩
    · obtain ⟨k, h1, h2, rfl⟩ := e3 rfl
      rw [if_neg (show ¬ zb true = 0 by decide), if_neg (show ¬ zb true = 0 by decide), if_pos (ib_nI (by omega) (by omega)), if_pos (ib_nI (by omega) (by omega)), Option.bind_some, nI_clamp (by omega), (hTA k h1 h2).2.2, (hM3 k h1 h2).2.1]
      exact ⟨_, rfl, rfl⟩
theorem sim_well {nb g : Nat} {en : Int32} {up cw : Bool} {bl wr fa : Int32} {b1 b2 : Nat → Int32} {sa : Int32} {lo : Int64} {pa we : Nat → Int32} {vo : Nat → Int64} {qn : Int32} {qs : Nat → Int32} {ql : Nat → Int64} {qt qw : Nat → Int32} {qv : Nat → Int64} {iu me : Int32} {dn : Bool} {lf mw mf ms mu : Int32} {ml : Int64} {c1 c2 mpa mwe mli : Nat → Int32} {mvo : Nat → Int64} {us : Int32} (hI : Inv nb g en up cw bl wr fa b1 b2 sa lo pa we vo qn qs ql qt qw qv iu me dn lf mw mf ms mu ml c1 c2 mpa mwe mli mvo us) (p1 : Int32) : ∃ x, fX8_well up we sa p1 = some x ∧ fX9_well dn ms mwe mli p1 = some x := by
  obtain ⟨rfl, rfl, rfl, rfl, rfl, ⟨n0, hn0, hsa0⟩, ⟨l, hLF, hl, rfl, hnl⟩, v, β, γ, rs, hγ, rfl, rfl, hG, hU⟩ := id hI
  cases up
  · exact ⟨-1, rfl, rfl⟩
  ·
    obtain ⟨rfl, rfl, rfl, rfl, hz, hC, hM, rfl⟩ := hU rfl
    have hWs := val_wf rs hG.2.2.2.2.1
    have hn := run_le _ hWs
    have hso := hWs.sum
    have hT := hWs.tab
    obtain ⟨rfl, rfl, hqn, hTA, hPR⟩ := hC
    obtain ⟨rfl, rfl, hM3⟩ := id hM
    generalize ht : run (svs rs) = t at *
    unfold fX8_well fX9_well
    rw [if_neg (show ¬ zb true = 0 by decide), if_pos (show zb (!true) = 0 from rfl), mwell, Option.bind_some]
    cases hw : wlB p1
    · rw [if_pos (show zb false = 0 from rfl), sampleIn_no we _ p1 hw]
      exact ⟨-1, rfl, rfl⟩
    · obtain ⟨x, q1, q2⟩ := occ_ok hn hTA hM hw
      rw [if_neg (show ¬ zb true = 0 by decide), q1, q2]
      exact ⟨x, rfl, rfl⟩
theorem child4 {t : Tab} (hn : t.1 ≤ 120) {pa we vo} (hTA : TA pa we vo t) {ms ml mpa mwe mli mvo} (hM : MT t ms ml mpa mwe mli mvo) (p1 v : Int32) : ∀ (d k f : Nat) (acc : Int32), 1 ≤ k → k + d = t.1 + 1 → d < f → ∃ x, fX7_childrenOf_4 pa (nI t.1) p1 f acc (nI k) = some x ∧ fX9_sample_82 (nI t.1) mpa p1 f acc v (nI k) = some x
  | 0, k, f + 1, acc, h1, hk, _ => by
    unfold fX7_childrenOf_4 fX9_sample_82
    rw [if_pos (nI_lt (by omega) (by omega)), if_pos (nI_lt (by omega) (by omega))]
    exact ⟨_, rfl, rfl⟩
  | d + 1, k, f + 1, acc, h1, hk, hf => by
    unfold fX7_childrenOf_4 fX9_sample_82
    rw [if_neg (nI_nlt (by omega) (by omega)), if_neg (nI_nlt (by omega) (by omega)), parentOf_ok hn (by omega), Option.bind_some, if_pos (show 1 ≤ k ∧ k ≤ t.1 by omega), if_pos (ib_nI (by omega) (by omega)), nI_clamp (by omega), (hTA k h1 (by omega)).1, (hM.2.2 k h1 (by omega)).1, nI_1]
    by_cases e : t.2.1 k = p1
    · rw [if_pos e, if_pos e]
      exact child4 hn hTA hM p1 v d (k + 1) f _ (by omega) (by omega) (by omega)
    · rw [if_neg e, if_neg e]
      exact child4 hn hTA hM p1 v d (k + 1) f _ (by omega) (by omega) (by omega)
theorem walk {t : Tab} (hT : TabOk t) (hn : t.1 ≤ 120) {pa we vo} (hTA : TA pa we vo t) {ms ml mpa mwe mli mvo} (hM : MT t ms ml mpa mwe mli mvo) : ∀ (K k j f : Nat), k ≤ K → 1 ≤ k → k ≤ t.1 → j + k ≤ 120 → K < f → ∃ s o, j ≤ s ∧ s ≤ 120 ∧ fX7_stepsToOrigin_4 pa (nI t.1) f (nI j) (nI k) = some (nI s) ∧ fX9_sample_118 mpa (3 : Int32) f (nI j) (nI k) = some (nI s) ∧ fX9_sample_118 mpa (4 : Int32) f (nI j) (nI k) = some (nI o) ∧ fX7_originOf_8 pa (nI t.1) f (nI k) (nI (s - j)) = some (nI o)
  | 0, k, j, f, h1, h2, _, _, _ => absurd h2 (by omega)
  | K + 1, k, j, f + 1, h1, h2, h3, h4, hf => by
    obtain ⟨⟨s0, hs0, e0⟩, -⟩ := hT k h2 h3
    have ep : fX7_parentOf pa (nI t.1) (nI k) = some (nI s0) := by rw [parentOf_ok hn (by omega), if_pos ⟨h2, h3⟩, (hTA k h2 h3).1, e0]
    have em : mpa k = nI s0 := by rw [(hM.2.2 k h2 h3).1, e0]
    by_cases hz : s0 = 0
    · subst hz
      refine ⟨j, k, Nat.le_refl _, by omega, ?_, ?_, ?_, ?_⟩
      · unfold fX7_stepsToOrigin_4
        rw [if_neg (show ¬ (120 : Int32) ≤ nI j from nI_ge (b := 120) (by omega) (by omega)), ep, Option.bind_some, if_pos (show nI 0 = 0 from rfl)]
      · unfold fX9_sample_118
        rw [if_pos (ib_nI (by omega) (by omega)), nI_clamp (by omega), em, if_pos rfl, if_pos (show nI 0 = 0 from rfl)]
      · unfold fX9_sample_118
        rw [if_pos (ib_nI (by omega) (by omega)), nI_clamp (by omega), em, if_pos (show nI 0 = 0 from rfl), if_neg (by decide)]
      · unfold fX7_originOf_8
        rw [Nat.sub_self, if_pos (by decide)]
    · have hne : ¬ nI s0 = 0 := fun h => hz ((nI_eq (b := 0) (by omega) (by omega)).mp h)
      obtain ⟨s, o, g1, g2, g3, g4, g5, g6⟩ := walk hT hn hTA hM K s0 (j + 1) f (by omega) (by omega) (by omega) (by omega) (by omega)
      refine ⟨s, o, by omega, g2, ?_, ?_, ?_, ?_⟩
      · unfold fX7_stepsToOrigin_4
        rw [if_neg (show ¬ (120 : Int32) ≤ nI j from nI_ge (b := 120) (by omega) (by omega)), ep, Option.bind_some, if_neg hne, Option.bind_some, nI_1]
        exact g3
      · unfold fX9_sample_118
        rw [if_pos (ib_nI (by omega) (by omega)), nI_clamp (by omega), em, if_neg hne, nI_1]
        exact g4
      · unfold fX9_sample_118
        rw [if_pos (ib_nI (by omega) (by omega)), nI_clamp (by omega), em, if_neg hne, nI_1]
        exact g5
      · unfold fX7_originOf_8
        rw [if_neg (nI_nle (by omega) (by omega)), ep, Option.bind_some, show s - j = (s - (j + 1)) + 1 by omega, nI_m1]
        exact g6
theorem sim_sample {nb g : Nat} {en : Int32} {up cw : Bool} {bl wr fa : Int32} {b1 b2 : Nat → Int32} {sa : Int32} {lo : Int64} {pa we : Nat → Int32} {vo : Nat → Int64} {qn : Int32} {qs : Nat → Int32} {ql : Nat → Int64} {qt qw : Nat → Int32} {qv : Nat → Int64} {iu me : Int32} {dn : Bool} {lf mw mf ms mu : Int32} {ml : Int64} {c1 c2 mpa mwe mli : Nat → Int32} {mvo : Nat → Int64} {us : Int32} (hI : Inv nb g en up cw bl wr fa b1 b2 sa lo pa we vo qn qs ql qt qw qv iu me dn lf mw mf ms mu ml c1 c2 mpa mwe mli mvo us) (p1 p2 : Int32) : ∃ x, fX8_sample up pa we sa p1 p2 = some x ∧ fX9_sample dn ms mpa mwe mli p1 p2 = some x := by
  obtain ⟨rfl, rfl, rfl, rfl, rfl, ⟨n0, hn0, hsa0⟩, ⟨l, hLF, hl, rfl, hnl⟩, v, β, γ, rs, hγ, rfl, rfl, hG, hU⟩ := id hI
  cases up
  · exact ⟨-1, rfl, rfl⟩
  ·
    obtain ⟨rfl, rfl, rfl, rfl, hz, hC, hM, rfl⟩ := hU rfl
    have hWs := val_wf rs hG.2.2.2.2.1
    have hn := run_le _ hWs
    have hso := hWs.sum
    have hT := hWs.tab
    obtain ⟨rfl, rfl, hqn, hTA, hPR⟩ := hC
    obtain ⟨rfl, rfl, hM3⟩ := id hM
    generalize ht : run (svs rs) = t at *
    unfold fX8_sample fX9_sample
    obtain ⟨b, e1, e2, e3⟩ := here_ok hn p1
    rw [if_neg (show ¬ zb true = 0 by decide), show (!true) = false from rfl, e1, e2, Option.bind_some, Option.bind_some]
    cases b
    · exact ⟨-1, rfl, rfl⟩
    · obtain ⟨k, h1, h2, rfl⟩ := e3 rfl
      rw [if_neg (show ¬ zb true = 0 by decide), if_neg (show ¬ zb true = 0 by decide)]
      by_cases c0 : p2 = 0
      · rw [if_pos c0, if_pos c0, parentOf_ok hn (by omega), if_pos (show 1 ≤ k ∧ k ≤ t.1 from ⟨h1, h2⟩), if_pos (ib_nI (by omega) (by omega)), nI_clamp (by omega), (hTA k h1 h2).1, (hM3 k h1 h2).1]
        exact ⟨_, rfl, rfl⟩
      · rw [if_neg c0, if_neg c0]
        by_cases c1 : p2 = 1
        · rw [if_pos c1, if_pos c1, wellOf_ok hn (by omega), if_pos (show 1 ≤ k ∧ k ≤ t.1 from ⟨h1, h2⟩), if_pos (ib_nI (by omega) (by omega)), nI_clamp (by omega), (hTA k h1 h2).2.1, (hM3 k h1 h2).2.2.1]
          by_cases hw : t.2.2.1 k = -1
          · rw [if_pos hw, if_pos rfl, hw]
            exact ⟨_, rfl, rfl⟩
          · rw [if_neg hw, if_neg (by decide), (hM3 k h1 h2).2.2.2 hw]
            exact ⟨_, rfl, rfl⟩
        · rw [if_neg c1, if_neg c1]
          by_cases c2 : p2 = 2
          · rw [if_pos c2, if_pos c2]
            obtain ⟨x, q1, q2⟩ := child4 hn hTA hM (nI k) (nI k) t.1 1 FU 0 (by omega) (by omega) (by show t.1 < 4096; omega)
            have q1 : fX7_childrenOf pa (nI t.1) (nI k) = some x := q1
            have q2 : fX9_sample_82 (nI t.1) mpa (nI k) FU (0 : Int32) (nI k) (1 : Int32) = some x := q2
            rw [q1, q2]
            exact ⟨_, rfl, rfl⟩
          · rw [if_neg c2, if_neg c2]
            obtain ⟨s, o, g1, g2, g3, g4, g5, g6⟩ := walk hT hn hTA hM k k 0 FU (Nat.le_refl _) h1 h2 (by omega) (by show k < 4096; omega)
            have g3 : fX7_stepsToOrigin pa (nI t.1) (nI k) = some (nI s) := g3
            have g4 : fX9_sample_118 mpa (3 : Int32) FU (0 : Int32) (nI k) = some (nI s) := g4
            have g5 : fX9_sample_118 mpa (4 : Int32) FU (0 : Int32) (nI k) = some (nI o) := g5
            rw [Nat.sub_zero] at g6
            by_cases c3 : p2 = 3
            · subst c3
              rw [if_pos rfl, if_pos rfl, g3, g4]
              exact ⟨_, rfl, rfl⟩
            · rw [if_neg c3, if_neg c3]
              by_cases c4 : p2 = 4
              · subst c4
                unfold fX7_originOf
                rw [if_pos rfl, if_pos rfl, g3, Option.bind_some, g6, g5]
                exact ⟨_, rfl, rfl⟩
              · rw [if_neg c4, if_neg c4]
                exact ⟨_, rfl, rfl⟩
theorem sim_cut {nb g : Nat} {en : Int32} {up cw : Bool} {bl wr fa : Int32} {b1 b2 : Nat → Int32} {sa : Int32} {lo : Int64} {pa we : Nat → Int32} {vo : Nat → Int64} {qn : Int32} {qs : Nat → Int32} {ql : Nat → Int64} {qt qw : Nat → Int32} {qv : Nat → Int64} {iu me : Int32} {dn : Bool} {lf mw mf ms mu : Int32} {ml : Int64} {c1 c2 mpa mwe mli : Nat → Int32} {mvo : Nat → Int64} {us : Int32} (hI : Inv nb g en up cw bl wr fa b1 b2 sa lo pa we vo qn qs ql qt qw qv iu me dn lf mw mf ms mu ml c1 c2 mpa mwe mli mvo us) (p1 : Int32) : ∃ x cw' bl' lf', fX8_cut up cw bl p1 = some (x, cw', bl') ∧ fX9_cut dn lf p1 = some (x, lf') ∧ Inv nb g en up cw' bl' wr fa b1 b2 sa lo pa we vo qn qs ql qt qw qv iu me dn lf' mw mf ms mu ml c1 c2 mpa mwe mli mvo us := by
  obtain ⟨e1, e2, e3, e4, e5, e6, e7, e8⟩ := id hI
  subst e5
  unfold fX8_cut fX9_cut
  by_cases hp : p1 < 0
  · rw [if_pos hp, if_pos hp]
    exact ⟨_, _, _, _, rfl, rfl, hI⟩
  · rw [if_neg hp, if_neg hp]
    obtain ⟨k, hk, rfl⟩ := i32_nn hp
    cases up
    · exact ⟨-1, cw, bl, lf, rfl, rfl, hI⟩
    · refine ⟨1, true, nI k, nI k, rfl, rfl, e1, e2, e3, e4, rfl, e6, ⟨some k, ⟨rfl, rfl, hk⟩, fun j hj => ?_, rfl, fun h => by cases h⟩, e8⟩
      have : k = j := Option.some.inj hj
      omega
