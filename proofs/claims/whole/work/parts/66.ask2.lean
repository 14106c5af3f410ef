/-! 66.ask2: count, total, recover -/
theorem live4 {t : Tab} (hn : t.1 ≤ 120) {pa we vo} (hTA : TA pa we vo t) {ms ml mpa mwe mli mvo} (hM : MT t ms ml mpa mwe mli mvo) : ∀ (d k f : Nat) (acc : Int32), 1 ≤ k → k + d = t.1 + 1 → d < f → ∃ x, fX7_liveCount_4 we (nI t.1) f acc (nI k) = some x ∧ fX9_count_127 (nI t.1) mli f acc (nI k) = some x
  | 0, k, f + 1, acc, h1, hk, _ => by
    unfold fX7_liveCount_4 fX9_count_127
    rw [if_pos (nI_lt (by omega) (by omega)), if_pos (nI_lt (by omega) (by omega))]
    exact ⟨_, rfl, rfl⟩
  | d + 1, k, f + 1, acc, h1, hk, hf => by
    unfold fX7_liveCount_4 fX9_count_127
    rw [if_neg (nI_nlt (by omega) (by omega)), if_neg (nI_nlt (by omega) (by omega)), clive hn hTA, Option.bind_some, lvB_nat t h1 (by omega), decide_eq_true (show k ≤ t.1 by omega), Bool.true_and, if_pos (ib_nI (by omega) (by omega)), nI_clamp (by omega), (hM.2.2 k h1 (by omega)).2.2.1, nI_1]
    by_cases e : t.2.2.1 k = -1
    · rw [decide_eq_false (fun h => h e), if_pos (show zb false = 0 from rfl), if_pos e, if_pos rfl]
      exact live4 hn hTA hM d (k + 1) f _ (by omega) (by omega) (by omega)
    · rw [decide_eq_true e, if_neg (show ¬ zb true = 0 by decide), if_neg e, if_neg (by decide)]
      exact live4 hn hTA hM d (k + 1) f _ (by omega) (by omega) (by omega)
theorem cgen_v {β γ : Nat → Nat} (hβ : ∀ i, β i < 256) {nb : Nat} (h64 : 64 ≤ nb) (hnb : nb ≤ 2048) (v : Bool) : fX3_generation nb (bA v β γ) (bB v β γ) (iuO v) = some (nI (numB β 0 4)) := by
  cases v
  · exact cgen_2 hβ h64 hnb (sbk γ)
  · exact cgen_1 hβ h64 hnb (sbk γ)
theorem mgen_v {β γ : Nat → Nat} (hβ : ∀ i, β i < 256) {nb : Nat} (h64 : 64 ≤ nb) (hnb : nb ≤ 2048) (v : Bool) : fX9_generation nb (bA v β γ) (bB v β γ) (iuO v) = some (lN (numB β 0 4)) := by
  cases v
  · exact mgen_1 hβ h64 hnb (sbk γ)
  · exact mgen_2 hβ h64 hnb (sbk γ)
theorem sim_count {nb g : Nat} {en : Int32} {up cw : Bool} {bl wr fa : Int32} {b1 b2 : Nat → Int32} {sa : Int32} {lo : Int64} {pa we : Nat → Int32} {vo : Nat → Int64} {qn : Int32} {qs : Nat → Int32} {ql : Nat → Int64} {qt qw : Nat → Int32} {qv : Nat → Int64} {iu me : Int32} {dn : Bool} {lf mw mf ms mu : Int32} {ml : Int64} {c1 c2 mpa mwe mli : Nat → Int32} {mvo : Nat → Int64} {us : Int32} (h64 : 64 ≤ nb) (hnb : nb ≤ 2048) (hI : Inv nb g en up cw bl wr fa b1 b2 sa lo pa we vo qn qs ql qt qw qv iu me dn lf mw mf ms mu ml c1 c2 mpa mwe mli mvo us) (p1 : Int32) : ∃ x, fX8_count up wr fa nb b1 b2 iu en we sa qn p1 = some x ∧ fX9_count nb (nI nb) us me dn mw mf ms mu c1 c2 mli p1 = some x := by
  obtain ⟨rfl, rfl, rfl, rfl, rfl, ⟨n0, hn0, hsa0⟩, ⟨l, hLF, hl, rfl, hnl⟩, v, β, γ, rs, hγ, rfl, rfl, hG, hU⟩ := id hI
  cases up
  · unfold fX8_count fX9_count
    rw [if_neg (show ¬ zb (!false) = 0 by decide)]
    by_cases c0 : p1 = 0
    · subst c0
      exact ⟨0, rfl, rfl⟩
    · by_cases c1 : p1 = 1
      · subst c1
        exact ⟨_, rfl, rfl⟩
      · by_cases c2 : p1 = 2
        · subst c2
          exact ⟨_, rfl, rfl⟩
        · by_cases c3 : p1 = 3
          · subst c3
            exact ⟨_, rfl, rfl⟩
          · rw [if_neg c0, if_neg c1, if_neg c2, if_neg c3, if_pos (show zb false = 0 from rfl)]
            by_cases hp : p1 ≤ 3
            · rw [if_pos hp, if_neg c0, if_neg c1, if_neg c2, if_neg c3, if_neg (fun h => absurd hp (by rw [h]; decide)), if_neg (fun h => absurd hp (by rw [h]; decide)), if_neg (fun h => absurd hp (by rw [h]; decide)), if_neg (fun h => absurd hp (by rw [h]; decide)), if_neg (fun h => absurd hp (by rw [h]; decide)), if_neg (fun h => absurd hp (by rw [h]; decide))]
              exact ⟨_, rfl, rfl⟩
            · rw [if_neg hp]
              exact ⟨_, rfl, rfl⟩
  ·
    obtain ⟨rfl, rfl, rfl, rfl, hz, hC, hM, rfl⟩ := hU rfl
    have hWs := val_wf rs hG.2.2.2.2.1
    have hn := run_le _ hWs
    have hso := hWs.sum
    have hT := hWs.tab
    obtain ⟨rfl, rfl, hqn, hTA, hPR⟩ := hC
    obtain ⟨rfl, rfl, hM3⟩ := id hM
    generalize ht : run (svs rs) = t at *
    unfold fX8_count fX9_count fX8_countWithPower
    rw [if_pos (show zb (!true) = 0 from rfl), if_neg (show ¬ zb true = 0 by decide), if_neg (show ¬ zb true = 0 by decide)]
    by_cases c0 : p1 = 0
    · rw [if_pos c0, if_pos c0]
      exact ⟨_, rfl, rfl⟩
    · rw [if_neg c0, if_neg c0]
      by_cases c1 : p1 = 1
      · rw [if_pos c1, if_pos c1]
        exact ⟨_, rfl, rfl⟩
      · rw [if_neg c1, if_neg c1]
        by_cases c2 : p1 = 2
        · rw [if_pos c2, if_pos c2]
          exact ⟨_, rfl, rfl⟩
        · rw [if_neg c2, if_neg c2]
          by_cases c3 : p1 = 3
          · rw [if_pos c3, if_pos c3]
            exact ⟨_, rfl, rfl⟩
          · rw [if_neg c3, if_neg c3]
            by_cases c4 : p1 = 4
            · rw [if_pos c4, if_pos c4]
              exact ⟨_, rfl, rfl⟩
            · rw [if_neg c4, if_neg c4]
              by_cases c5 : p1 = 5
              · rw [if_pos c5, if_pos c5, cgen_v hG.1 h64 hnb v, mgen_v hG.1 h64 hnb v, Option.bind_some, Option.bind_some, Option.bind_some, lN_i]
                exact ⟨_, rfl, rfl⟩
              · rw [if_neg c5, if_neg c5]
                by_cases c6 : p1 = 6
                · rw [if_pos c6, if_pos c6]
                  exact ⟨_, rfl, rfl⟩
                · rw [if_neg c6, if_neg c6]
                  by_cases c7 : p1 = 7
                  · rw [if_pos c7, if_pos c7]
                    exact ⟨_, rfl, rfl⟩
                  · rw [if_neg c7, if_neg c7]
                    by_cases c8 : p1 = 8
                    · obtain ⟨x, q1, q2⟩ := live4 hn hTA hM t.1 1 FU 0 (by omega) (by omega) (by show t.1 < 4096; omega)
                      have q1 : fX7_liveCount we (nI t.1) = some x := q1
                      have q2 : fX9_count_127 (nI t.1) mli FU (0 : Int32) (1 : Int32) = some x := q2
                      rw [if_pos c8, if_pos c8, q1, q2]
                      exact ⟨_, rfl, rfl⟩
                    · rw [if_neg c8, if_neg c8]
                      by_cases c9 : p1 = 9
                      · rw [if_pos c9, if_pos c9, hqn]
                        exact ⟨_, rfl, rfl⟩
                      · rw [if_neg c9, if_neg c9]
                        exact ⟨_, rfl, rfl⟩
/-- is p among k and its forebears? -/
def fam (t : Tab) (p : Nat) : Nat → Nat → Bool
  | 0, _ => false
  | f + 1, k => if k = p then true else if k = 0 then false else fam t p f (t.2.1 k).toNatClampNeg
theorem fam_ind {t : Tab} (hT : TabOk t) (hn : t.1 ≤ 120) (p : Nat) : ∀ (f f' k : Nat), k < f → k < f' → k ≤ t.1 → fam t p f k = fam t p f' k
  | f + 1, f' + 1, k, h1, h2, h3 => by
    show (if k = p then true else if k = 0 then false else fam t p f (t.2.1 k).toNatClampNeg) = (if k = p then true else if k = 0 then false else fam t p f' (t.2.1 k).toNatClampNeg)
    by_cases e : k = p
    · rw [if_pos e, if_pos e]
    · rw [if_neg e, if_neg e]
      by_cases z : k = 0
      · rw [if_pos z, if_pos z]
      · rw [if_neg z, if_neg z]
        obtain ⟨⟨s, hs, e0⟩, -⟩ := hT k (by omega) h3
        rw [e0, nI_clamp (by omega)]
        exact fam_ind hT hn p f f' s (by omega) (by omega) (by omega)
theorem t94 {t : Tab} (hT : TabOk t) (hn : t.1 ≤ 120) {ms ml mpa mwe mli mvo} (hM : MT t ms ml mpa mwe mli mvo) {p : Nat} (hp1 : 1 ≤ p) (hp2 : p ≤ t.1) (acc : Int64) {k : Nat} (hk : k ≤ 120) (K : Int64 → Int32 → Option Int64) : ∀ (C c f : Nat), c ≤ C → c ≤ t.1 → C < f → fX9_total_94 mpa mvo (nI p) acc (nI k) K f (nI c) = if fam t p (C + 1) c = true then K (acc + mvo k) (nI (k + 1)) else K (acc + 0) (nI (k + 1))
  | C, c, f + 1, h1, h2, hf => by
    unfold fX9_total_94
    show _ = if (if c = p then true else if c = 0 then false else fam t p C (t.2.1 c).toNatClampNeg) = true then K (acc + mvo k) (nI (k + 1)) else K (acc + 0) (nI (k + 1))
    by_cases e : c = p
    · rw [if_pos (show nI c = nI p by rw [e]), if_pos e, if_pos rfl, if_pos (ib_nI (by omega) (by omega)), nI_clamp (by omega), nI_1]
    · rw [if_neg (fun h => e ((nI_eq (by omega) (by omega)).mp h)), if_neg e]
      by_cases z : c = 0
      · rw [if_pos (show nI c = 0 by rw [z]; rfl), if_pos z, if_neg (by decide), nI_1]
      · rw [if_neg (show ¬ nI c = 0 from fun h => z ((nI_eq (b := 0) (by omega) (by omega)).mp h)), if_neg z, if_pos (ib_nI (by omega) (by omega)), nI_clamp (by omega)]
        obtain ⟨⟨s, hs, e0⟩, -⟩ := hT c (by omega) h2
        rw [(hM.2.2 c (by omega) h2).1, e0, nI_clamp (by omega)]
        obtain ⟨C', rfl⟩ : ∃ C', C = C' + 1 := ⟨C - 1, by omega⟩
        exact t94 hT hn hM hp1 hp2 acc hk K C' s f (by omega) (by omega) (by omega)
theorem fam17 {t : Tab} (hT : TabOk t) (hn : t.1 ≤ 120) {pa we vo} (hTA : TA pa we vo t) {ms ml mpa mwe mli mvo} (hM : MT t ms ml mpa mwe mli mvo) {p : Nat} (hp1 : 1 ≤ p) (hp2 : p ≤ t.1) : ∀ (d k f : Nat) (acc : Int64) (fm : Nat → Int32), 1 ≤ k → k + d = t.1 + 1 → d < f → (∀ j, 1 ≤ j → j < k → fm j = if fam t p (j + 1) j = true then (1 : Int32) else 0) → ∃ x fm', fX7_volumeOfFamily_17 pa vo (nI t.1) (nI p) f acc (nI k) fm = some (x, fm') ∧ fX9_total_81 (nI t.1) mpa mvo (nI p) f acc (nI k) = some x
  | 0, k, f + 1, acc, fm, h1, hk, _, _ => by
    unfold fX7_volumeOfFamily_17 fX9_total_81
    rw [if_pos (nI_lt (by omega) (by omega)), if_pos (nI_lt (by omega) (by omega))]
    exact ⟨_, _, rfl, rfl⟩
  | d + 1, k, f + 1, acc, fm, h1, hk, hf, hfm => by
    have h2 : k ≤ t.1 := by omega
    obtain ⟨⟨s, hs, e0⟩, -⟩ := hT k h1 h2
    have ep : fX7_parentOf pa (nI t.1) (nI k) = some (nI s) := by rw [parentOf_ok hn (by omega), if_pos ⟨h1, h2⟩, (hTA k h1 h2).1, e0]
    have v1 : vp_nar .boolean (1 : Int32) = 1 := by decide
    have v0 : vp_nar .boolean (0 : Int32) = 0 := by decide
    have hvo : mvo k = vo k := by rw [(hM.2.2 k h1 h2).2.1, (hTA k h1 h2).2.2]
    have hF : fam t p (k + 1) k = if k = p then true else if s = 0 then false else fam t p (s + 1) s := by
      show (if k = p then true else if k = 0 then false else fam t p k (t.2.1 k).toNatClampNeg) = _
      by_cases e : k = p
      · rw [if_pos e, if_pos e]
      · rw [if_neg e, if_neg e, if_neg (by omega), e0, nI_clamp (by omega)]
        by_cases z : s = 0
        · rw [if_pos z, z]
          obtain ⟨k', rfl⟩ : ∃ k', k = k' + 1 := ⟨k - 1, by omega⟩
          show (if 0 = p then true else if 0 = 0 then false else _) = false
          rw [if_neg (by omega), if_pos rfl]
        · rw [if_neg z]
          exact fam_ind hT hn p k (s + 1) s hs (by omega) (by omega)
    have step : ∀ (y : Int32) (acc' : Int64), (y = if fam t p (k + 1) k = true then (1 : Int32) else 0) → ∃ x fm', fX7_volumeOfFamily_17 pa vo (nI t.1) (nI p) f acc' (nI (k + 1)) (upd fm k y) = some (x, fm') ∧ fX9_total_81 (nI t.1) mpa mvo (nI p) f acc' (nI (k + 1)) = some x := fun y acc' hy => by
      refine fam17 hT hn hTA hM hp1 hp2 d (k + 1) f acc' _ (by omega) (by omega) (by omega) (fun j g1 g2 => ?_)
      by_cases e : j = k
      · subst e
        rw [pk_us]
        exact hy
      · rw [pk_un e]
        exact hfm j g1 (by omega)
    unfold fX7_volumeOfFamily_17 fX9_total_81
    rw [if_neg (nI_nlt (by omega) (by omega)), if_neg (nI_nlt (by omega) (by omega)), if_neg (show ¬ (120 : Int32) < nI k from nI_nlt (a := 120) (by omega) (by omega)), ep, Option.bind_some, t94 hT hn hM hp1 hp2 acc (by omega) (fX9_total_81 (nI t.1) mpa mvo (nI p) f) k k FU (Nat.le_refl _) h2 (by show k < 4096; omega), hF]
    by_cases e : k = p
    · rw [if_pos (show nI k = nI p by rw [e]), if_pos (ib_nI (by omega) (by omega)), nI_clamp (by omega), v1, pk_us, if_neg (show ¬ (1 : Int32) = 0 by decide), nI_1, if_pos e, if_pos rfl, hvo]
      exact step 1 _ (by rw [hF, if_pos e, if_pos rfl])
    · rw [if_neg (fun h => e ((nI_eq (by omega) (by omega)).mp h)), isSample_ok hn (by omega), Option.bind_some, if_neg e]
      by_cases z : s = 0
      · rw [decide_eq_false (show ¬ (1 ≤ s ∧ s ≤ t.1) by omega), if_pos (show zb false = 0 from rfl), if_pos (ib_nI (by omega) (by omega)), nI_clamp (by omega), v0, pk_us, if_pos rfl, nI_1, if_pos z, if_neg (by decide)]
        exact step 0 _ (by rw [hF, if_neg e, if_pos z]; rfl)
      · rw [decide_eq_true (show 1 ≤ s ∧ s ≤ t.1 by omega), if_neg (show ¬ zb true = 0 by decide), if_pos (ib_nI (by omega) (by omega)), nI_clamp (by omega), hfm s (by omega) hs, if_neg z]
        cases hb : fam t p (s + 1) s
        · rw [if_pos (show (if false = true then (1 : Int32) else 0) = 0 from rfl), if_pos (ib_nI (by omega) (by omega)), nI_clamp (by omega), v0, pk_us, if_pos rfl, nI_1, if_neg (show ¬ false = true by decide)]
          exact step 0 _ (by rw [hF, if_neg e, if_neg z, hb]; rfl)
        · rw [if_neg (show ¬ (if true = true then (1 : Int32) else 0) = 0 by decide), if_pos (ib_nI (by omega) (by omega)), nI_clamp (by omega), v1, pk_us, if_neg (show ¬ (1 : Int32) = 0 by decide), nI_1, if_pos (show true = true from rfl), hvo]
          exact step 1 _ (by rw [hF, if_neg e, if_neg z, hb]; rfl)
theorem sim_total {nb g : Nat} {en : Int32} {up cw : Bool} {bl wr fa : Int32} {b1 b2 : Nat → Int32} {sa : Int32} {lo : Int64} {pa we : Nat → Int32} {vo : Nat → Int64} {qn : Int32} {qs : Nat → Int32} {ql : Nat → Int64} {qt qw : Nat → Int32} {qv : Nat → Int64} {iu me : Int32} {dn : Bool} {lf mw mf ms mu : Int32} {ml : Int64} {c1 c2 mpa mwe mli : Nat → Int32} {mvo : Nat → Int64} {us : Int32} (hI : Inv nb g en up cw bl wr fa b1 b2 sa lo pa we vo qn qs ql qt qw qv iu me dn lf mw mf ms mu ml c1 c2 mpa mwe mli mvo us) (fm : Nat → Int32) (p1 p2 : Int32) : ∃ x fm', fX8_total up pa vo fm sa lo p1 p2 = some (x, fm') ∧ fX9_total dn ms ml mpa mvo p1 p2 = some x := by
  obtain ⟨rfl, rfl, rfl, rfl, rfl, ⟨n0, hn0, hsa0⟩, ⟨l, hLF, hl, rfl, hnl⟩, v, β, γ, rs, hγ, rfl, rfl, hG, hU⟩ := id hI
  cases up
  · exact ⟨-1, fm, rfl, rfl⟩
  ·
    obtain ⟨rfl, rfl, rfl, rfl, hz, hC, hM, rfl⟩ := hU rfl
    have hWs := val_wf rs hG.2.2.2.2.1
    have hn := run_le _ hWs
    have hso := hWs.sum
    have hT := hWs.tab
    obtain ⟨rfl, rfl, hqn, hTA, hPR⟩ := hC
    obtain ⟨rfl, rfl, hM3⟩ := id hM
    generalize ht : run (svs rs) = t at *
    unfold fX8_total fX9_total
    obtain ⟨y, y1, y2, y3, y4⟩ := lv_ok hn hso hTA hM
    rw [if_neg (show ¬ zb true = 0 by decide), if_pos (show zb (!true) = 0 from rfl), y1, y2]
    by_cases c0 : p1 = 0
    · rw [if_pos c0, if_pos c0]
      exact ⟨_, _, rfl, rfl⟩
    · rw [if_neg c0, if_neg c0]
      by_cases c1 : p1 = 1
      · rw [if_pos c1, if_pos c1]
        exact ⟨_, _, rfl, rfl⟩
      · rw [if_neg c1, if_neg c1]
        by_cases c2 : p1 = 2
        · rw [if_pos c2, if_pos c2]
          exact ⟨_, _, rfl, rfl⟩
        · rw [if_neg c2, if_neg c2]
          by_cases c3 : p1 = 3
          · rw [if_pos c3, if_pos c3]
            unfold fX7_volumeOfFamily
            obtain ⟨b, e1, e2, e3⟩ := here_ok hn p2
            rw [show (!true) = false from rfl, e1, e2, Option.bind_some, Option.bind_some]
            cases b
            · exact ⟨-1, fm, rfl, rfl⟩
            · obtain ⟨k, h1, h2, rfl⟩ := e3 rfl
              rw [if_neg (show ¬ zb true = 0 by decide), if_neg (show ¬ zb true = 0 by decide)]
              obtain ⟨x, fm', q1, q2⟩ := fam17 hT hn hTA hM h1 h2 t.1 1 FU 0 fm (by omega) (by omega) (by show t.1 < 4096; omega) (fun j g1 g2 => absurd g1 (by omega))
              have q1 : fX7_volumeOfFamily_17 pa vo (nI t.1) (nI k) FU (0 : Int64) (1 : Int32) fm = some (x, fm') := q1
              have q2 : fX9_total_81 (nI t.1) mpa mvo (nI k) FU (0 : Int64) (1 : Int32) = some x := q2
              rw [q1, q2]
              exact ⟨_, _, rfl, rfl⟩
          · rw [if_neg c3, if_neg c3]
            exact ⟨_, _, rfl, rfl⟩
theorem endR_le_len {rs : List Rec} : 9 ≤ endR rs := endR_9 rs
theorem blk_low {β : Nat → Nat} {a nb : Nat} {i : Nat} (h : i < a) : blk β a nb i = β i := if_neg (by omega)
theorem Good.blank {nb g : Nat} {γ β : Nat → Nat} {rs : List Rec} (h : Good nb g γ β rs) : Good nb g γ (blk β (endR rs) nb) rs ∧ Zt (blk β (endR rs) nb) (endR rs) nb := by
  obtain ⟨hβ, hSel, hg, hS, hV, hen, h0⟩ := h
  have h9 := endR_9 rs
  have hz : Zt (blk β (endR rs) nb) (endR rs) nb := fun i h1 h2 => if_pos ⟨h1, h2⟩
  refine ⟨⟨blk_lt hβ _ _, Sel_cong (fun i hi => blk_low (by omega)) hSel, ?_, Seg_cong rs (fun i _ h2 => blk_low h2) hS, hV, hen, hz.whole⟩, hz⟩
  rw [numB_cong (β := β) 0 4 (fun i _ h2 => blk_low (by omega))]
  exact hg
def RcRes (nb g : Nat) (wr fa : Int32) (bl : Int32) (o : Option CRTup) (q : Option MRTup) : Prop := ∃ r up cw b1 b2 iu en ek es ew ev pa we vo sa lo qs ql qt qw qv qn, o = some (r, up, cw, b1, b2, iu, en, ek, es, ew, ev, pa, we, vo, sa, lo, qs, ql, qt, qw, qv, qn) ∧ ∃ us me rc dn lf ms mu ml c1 c2 mpa mwe mli mvo mpl, q = some (r, us, me, rc, dn, lf, ms, mu, ml, c1, c2, mpa, mwe, mli, mvo, mpl) ∧ Inv nb g en up cw bl wr fa b1 b2 sa lo pa we vo qn qs ql qt qw qv iu me dn lf wr fa ms mu ml c1 c2 mpa mwe mli mvo us
theorem sim_recover {nb g : Nat} {en : Int32} {up cw : Bool} {bl wr fa : Int32} {b1 b2 : Nat → Int32} {sa : Int32} {lo : Int64} {pa we : Nat → Int32} {vo : Nat → Int64} {qn : Int32} {qs : Nat → Int32} {ql : Nat → Int64} {qt qw : Nat → Int32} {qv : Nat → Int64} {iu me : Int32} {dn : Bool} {lf mw mf ms mu : Int32} {ml : Int64} {c1 c2 mpa mwe mli : Nat → Int32} {mvo : Nat → Int64} {us : Int32} (h64 : 64 ≤ nb) (hnb : nb ≤ 2048) (hI : Inv nb g en up cw bl wr fa b1 b2 sa lo pa we vo qn qs ql qt qw qv iu me dn lf mw mf ms mu ml c1 c2 mpa mwe mli mvo us) (ek es ew : Int32) (ev : Int64) (mpl : Nat → Int32) : RcRes nb g wr fa bl (fX8_recover nb b1 b2 ek es ew ev pa we vo qs ql qt qw qv) (fX9_recover nb (nI nb) c1 c2 mpa mwe mli mvo mpl) := by
  obtain ⟨rfl, rfl, rfl, rfl, rfl, ⟨n0, hn0, hsa0⟩, ⟨l, hLF, hl, rfl, hnl⟩, v, β, γ, rs, hγ, rfl, rfl, hG, hU⟩ := id hI
  obtain ⟨hβ, hSel, hg, hS, hV, hen, h0⟩ := id hG
  obtain ⟨hG', hz'⟩ := hG.blank
  obtain ⟨ek', es', ew', ev', pa', we', vo', sa', lo', qs', ql', qt', qw', qv', qn', hc, hCT⟩ := crecover hβ hγ h64 hnb v hSel hS hV hen h0 ek es ew ev pa we vo qs ql qt qw qv
  obtain ⟨ms', ml', mpa', mwe', mli', mvo', mpl', hm, hMT⟩ := mrecover hβ hγ h64 hnb v hSel hS hV hen h0 mpa mwe mli mvo mpl
  have hn := run_le _ (val_wf rs hV)
  exact ⟨_, _, _, _, _, _, _, _, _, _, _, _, _, _, _, _, _, _, _, _, _, _, hc, _, _, _, _, _, _, _, _, _, _, _, _, _, _, _, hm, rfl, rfl, rfl, rfl, rfl, ⟨_, hn, hCT.1⟩, ⟨none, rfl, (fun k h => by cases h), rfl, fun _ => rfl⟩, v, _, γ, rs, hγ, rfl, rfl, hG', fun _ => ⟨rfl, rfl, rfl, rfl, hz', hCT, hMT, rfl⟩⟩
