/-! 64.compact: the table written anew, on both sides -/
theorem Good.mono {nb g g' : Nat} {γ β : Nat → Nat} {rs : List Rec} (h : Good nb g γ β rs) (hg : g ≤ g') : Good nb g' γ β rs := ⟨h.1, h.2.1, Nat.le_trans h.2.2.1 hg, h.2.2.2⟩
theorem Inv.mono {nb g : Nat} {en : Int32} {up cw : Bool} {bl wr fa : Int32} {b1 b2 : Nat → Int32} {sa : Int32} {lo : Int64} {pa we : Nat → Int32} {vo : Nat → Int64} {qn : Int32} {qs : Nat → Int32} {ql : Nat → Int64} {qt qw : Nat → Int32} {qv : Nat → Int64} {iu me : Int32} {dn : Bool} {lf mw mf ms mu : Int32} {ml : Int64} {c1 c2 mpa mwe mli : Nat → Int32} {mvo : Nat → Int64} {us : Int32} (hI : Inv nb g en up cw bl wr fa b1 b2 sa lo pa we vo qn qs ql qt qw qv iu me dn lf mw mf ms mu ml c1 c2 mpa mwe mli mvo us) {g' : Nat} (hg : g ≤ g') : Inv nb g' en up cw bl wr fa b1 b2 sa lo pa we vo qn qs ql qt qw qv iu me dn lf mw mf ms mu ml c1 c2 mpa mwe mli mvo us := by
  obtain ⟨e1, e2, e3, e4, e5, e6, e7, v, β, γ, rs, hγ, x1, x2, hG, hU⟩ := hI
  exact ⟨e1, e2, e3, e4, e5, e6, e7, v, β, γ, rs, hγ, x1, x2, hG.mono hg, hU⟩
theorem cp_end {nb g m : Nat} (h64 : 64 ≤ nb) (hnb : nb ≤ 2048) {u : Bool} {β γ : Nat → Nat} {rs ks : List Rec} (hG : Good nb g γ β rs) (hm : numB β 0 4 = m) {W : Aw} {p : Nat} (hlt : ∀ i, W.2.2.2.2.2 i < 256) (hup : W.1 = true → Good nb (m + 1) β W.2.2.2.2.2 ks ∧ Zt W.2.2.2.2.2 (endR ks) nb ∧ p = endR ks) (hor : Low W.2.2.2.2.2 m ∨ Good nb (m + 1) β W.2.2.2.2.2 ks) {cw : Bool} {bl : Int32} (hC : Cst W cw bl) (hok : okL W.2.1) {pa we : Nat → Int32} {vo : Nat → Int64} {n : Nat} (hn : n ≤ 120) {lo : Int64} {qs : Nat → Int32} {ql : Nat → Int64} {qt qw : Nat → Int32} {qv : Nat → Int64} (hCk : CTb ks pa we vo (nI n) lo qs ql qt qw qv 0) (en qn : Int32) {me rc ms mu : Int32} {ml : Int64} {mpa mwe mli : Nat → Int32} {mvo : Nat → Int64} {mpl : Nat → Int32} {q : Option MCTup} (hq : MEnd nb (iuO (!u)) me rc ms mu ml mpa mwe mli mvo mpl u β W q) :
    ∃ us me rc dn lf mw mf ms mu ml mz c1 c2 mpa mwe mli mvo mro mpl, q = some ((if W.1 = true then (0 : Int32) else (-1 : Int32)), us, me, rc, dn, lf, mw, mf, ms, mu, ml, mz, c1, c2, mpa, mwe, mli, mvo, mro, mpl) ∧ Inv nb (g + 1) (if W.1 = true then nI p else en) W.1 cw bl W.2.2.1 W.2.2.2.1 (bA u W.2.2.2.2.2 β) (bB u W.2.2.2.2.2 β) (nI n) lo pa we vo (if W.1 = true then (0 : Int32) else qn) qs ql qt qw qv (if W.1 = true then iuO u else iuO (!u)) me dn lf mw mf ms mu ml c1 c2 mpa mwe mli mvo us := by
  obtain ⟨mz', mro', hq1, hq2⟩ := hq
  have hmg : m ≤ g := by rw [← hm]; exact hG.2.2.1
  cases hu : W.1
  · refine ⟨_, _, _, _, _, _, _, _, _, _, _, _, _, _, _, _, _, _, _, hq1 hu, rfl, rfl, rfl, rfl, rfl, ⟨n, hn, rfl⟩, ⟨W.2.1, hC.1, hok, rfl, fun _ => hC.2 hu⟩, ?_⟩
    rcases hor with h | h
    · refine ⟨!u, β, W.2.2.2.2.2, rs, hlt, ?_, ?_, ⟨hG.1, ⟨hG.2.1.1, ?_⟩, by omega, hG.2.2.2⟩, fun h => by cases h⟩
      · cases u <;> rfl
      · cases u <;> rfl
      · rw [hm]; exact h
    · exact ⟨u, W.2.2.2.2.2, β, ks, hG.1, rfl, rfl, h.mono (by omega), fun h => by cases h⟩
  · obtain ⟨hGk, hz, hp⟩ := hup hu
    cases u
    · obtain ⟨ms', ml', mpa', mwe', mli', mvo', mpl', hrd, hMT⟩ := reads_v (γ := β) hlt h64 hnb false mpa mwe mli mvo mpl hGk.2.2.2.1 hGk.2.2.2.2.1 hGk.2.2.2.2.2.1 hGk.2.2.2.2.2.2
      exact ⟨_, _, _, _, _, _, _, _, _, _, _, _, _, _, _, _, _, _, _, hq2 hu _ _ _ _ _ _ _ _ _ _ hrd, rfl, rfl, rfl, rfl, rfl, ⟨n, hn, rfl⟩, ⟨W.2.1, hC.1, hok, rfl, fun h => by cases h⟩, false, W.2.2.2.2.2, β, ks, hG.1, rfl, rfl, hGk.mono (by omega), fun _ => ⟨rfl, rfl, by rw [← hp]; rfl, rfl, hz, hCk, hMT, rfl⟩⟩
    · obtain ⟨ms', ml', mpa', mwe', mli', mvo', mpl', hrd, hMT⟩ := reads_v (γ := β) hlt h64 hnb true mpa mwe mli mvo mpl hGk.2.2.2.1 hGk.2.2.2.2.1 hGk.2.2.2.2.2.1 hGk.2.2.2.2.2.2
      exact ⟨_, _, _, _, _, _, _, _, _, _, _, _, _, _, _, _, _, _, _, hq2 hu _ _ _ _ _ _ _ _ _ _ hrd, rfl, rfl, rfl, rfl, rfl, ⟨n, hn, rfl⟩, ⟨W.2.1, hC.1, hok, rfl, fun h => by cases h⟩, true, W.2.2.2.2.2, β, ks, hG.1, rfl, rfl, hGk.mono (by omega), fun _ => ⟨rfl, rfl, by rw [← hp]; rfl, rfl, hz, hCk, hMT, rfl⟩⟩
abbrev CpC : Type := Int32 × Bool × Bool × Int32 × Int32 × Int32 × Nat × Int32 × Int32 × (Nat → Int32) × (Nat → Int32) × Int32 × Int32 × Int32 × Int32 × Int32 × Int64 × Int32
def CpRes (nb g : Nat) (sa : Int32) (lo : Int64) (pa we : Nat → Int32) (vo : Nat → Int64) (qs : Nat → Int32) (ql : Nat → Int64) (qt qw : Nat → Int32) (qv : Nat → Int64) (o : Option CpC) (q : Option MCTup) : Prop := ∃ r up cw bl wr fa pb pos crc b1 b2 iu en ek es ew ev qn, o = some (r, up, cw, bl, wr, fa, pb, pos, crc, b1, b2, iu, en, ek, es, ew, ev, qn) ∧ ∃ us me rc dn lf mw mf ms mu ml mz c1 c2 mpa mwe mli mvo mro mpl, q = some (r, us, me, rc, dn, lf, mw, mf, ms, mu, ml, mz, c1, c2, mpa, mwe, mli, mvo, mro, mpl) ∧ Inv nb (g + 1) en up cw bl wr fa b1 b2 sa lo pa we vo qn qs ql qt qw qv iu me dn lf mw mf ms mu ml c1 c2 mpa mwe mli mvo us
theorem room_n {n : Nat} : nI n * (19 : Int32) = nI (n * 19) := (Int32.ofNat_mul n 19).symm
theorem sim_compact {nb g : Nat} {en : Int32} {up cw : Bool} {bl wr fa : Int32} {b1 b2 : Nat → Int32} {sa : Int32} {lo : Int64} {pa we : Nat → Int32} {vo : Nat → Int64} {qn : Int32} {qs : Nat → Int32} {ql : Nat → Int64} {qt qw : Nat → Int32} {qv : Nat → Int64} {iu me : Int32} {dn : Bool} {lf mw mf ms mu : Int32} {ml : Int64} {c1 c2 mpa mwe mli : Nat → Int32} {mvo : Nat → Int64} {us : Int32} (h64 : 64 ≤ nb) (hnb : nb ≤ 2048) (hg : g + 1 < 2 ^ 31) (hI : Inv nb g en up cw bl wr fa b1 b2 sa lo pa we vo qn qs ql qt qw qv iu me dn lf mw mf ms mu ml c1 c2 mpa mwe mli mvo us) (k1 k2 pb : Nat) (pos crc ek es ew : Int32) (ev : Int64) (rc mz : Int32) (mro mpl : Nat → Int32) : CpRes nb g sa lo pa we vo qs ql qt qw qv (fX8_compact k1 k2 up cw bl wr fa pb pos crc nb b1 b2 iu en ek es ew ev pa we vo sa lo qn) (fX9_compact nb (nI nb) us me rc dn lf mw mf ms mu ml mz c1 c2 mpa mwe mli mvo mro mpl) := by
  have hI1 := hI.mono (Nat.le_add_right g 1)
  obtain ⟨rfl, rfl, rfl, rfl, rfl, ⟨n0, hn0, hsa0⟩, ⟨l, hLF, hl, rfl, hnl⟩, v, β, γ, rs, hγ, rfl, rfl, hG, hU⟩ := id hI
  cases up
  · exact ⟨-1, _, _, _, _, _, pb, pos, crc, _, _, _, _, ek, es, ew, ev, _, rfl, _, _, rc, _, _, _, _, _, _, _, mz, _, _, _, _, _, _, mro, mpl, rfl, hI1⟩
  ·
    obtain ⟨rfl, rfl, rfl, rfl, hz, hC, hM, rfl⟩ := hU rfl
    have hWs := val_wf rs hG.2.2.2.2.1
    have hn := run_le _ hWs
    have hso := hWs.sum
    have hT := hWs.tab
    obtain ⟨rfl, rfl, hqn, hTA, hPR⟩ := hC
    obtain ⟨rfl, rfl, hM3⟩ := id hM
    have hL7 : fX9_lengthOf (7 : Int32) = some (16 : Int32) := by decide
    have hL6 : fX9_lengthOf (6 : Int32) = some (19 : Int32) := by decide
    unfold fX8_compact fX9_compact fX3_otherBankHolds
    rw [if_neg (show ¬ zb true = 0 by decide), if_pos (show zb (!true) = 0 from rfl), hL7, Option.bind_some, hL6, Option.bind_some, room_n, show (25 : Int32) + nI ((run (svs rs)).1 * 19) = nI (25 + (run (svs rs)).1 * 19) from nI_add 25 _, show (9 : Int32) + (16 : Int32) + nI ((run (svs rs)).1 * 19) = nI (25 + (run (svs rs)).1 * 19) from nI_add 25 _]
    generalize ht : run (svs rs) = t at *
    by_cases hroom : 25 + 19 * t.1 ≤ nb
    · rw [if_neg (nI_nlt (by omega) (by omega)), Option.bind_some, if_neg (show ¬ zb true = 0 by decide), if_pos (nI_le (by omega) (by omega))]
      have hgen : numB β 0 4 ≤ g := hG.2.2.1
      have hst := stg_head (stg_cA (t := t) (nb := nb) (m := numB β 0 4) hγ hG.2.1.2 l mw mf h64 t.1) (β := β) rfl (by omega) (val_kepts hT hn hso t.1 (Nat.le_refl _)) (by rw [endR_kepts]; exact hroom)
      rw [← finA_d] at hst
      have hCk := CTb_kepts hT hn hTA qs ql qt qw qv
      have hok : okL (finA t nb (true, l, mw, mf, 0, γ) (numB β 0 4 + 1)).2.1 := by
        rw [finA_d]
        refine okL_wbs _ _ ?_
        show okL (cA t nb (true, l, mw, mf, 0, γ) t.1).2.1
        have : ∀ k, okL (cA t nb (true, l, mw, mf, 0, γ) k).2.1 := by
          intro k
          induction k with
          | zero => rw [cA_0]; exact okL_wbs _ _ (okL_wbs (zl nb) (true, l, mw, mf, 0, γ) hl)
          | succ k ih => rw [cA_s]; exact okL_wbs _ _ ih
        exact this _
      cases v
      · obtain ⟨cw', bl', pos', crc', ek', es', ew', ev', hca, hCs⟩ := canew_2 hT hn hTA h64 hnb hroom hG.1 rfl (by omega) k2 (nI (endR rs)) l mw mf γ cw bl hLF
        have hmc := mcompact hT hn hM h64 hnb hroom true hG.1 rfl (by omega) (nI (endR rs)) rc (nI (uc (svs rs))) mz mro mpl l mw mf γ hl
        have hce := cp_end h64 hnb (u := true) hG rfl hst.1 hst.2.1 hst.2.2 hCs hok hn hCk (nI (endR rs)) qn hmc
        rw [if_neg (show ¬ (1 : Int32) - iuO false = 0 by decide)]
        have hca : fX3_writeAnew_2 k2 true cw bl mw mf nb (bA false β γ) (bB false β γ) (iuO false) (nI (endR rs)) pa we vo (nI t.1) t.2.2.2.2 = _ := hca
        rw [hca, Option.bind_some]
        dsimp only
        generalize finA t nb (true, l, mw, mf, 0, γ) (numB β 0 4 + 1) = W at hce ⊢
        generalize cA t nb (true, l, mw, mf, 0, γ) t.1 = An at hce ⊢
        obtain ⟨us', me', rc', dn', lf', mw', mf', ms', mu', ml', mz', c1', c2', mpa', mwe', mli', mvo', mro', mpl', hq, hI'⟩ := hce
        cases hu : W.1
        · rw [if_pos (show zb false = 0 from rfl)]
          rw [hu] at hq hI'
          exact ⟨-1, _, _, _, _, _, _, _, _, _, _, _, _, _, _, _, _, _, rfl, us', me', rc', dn', lf', mw', mf', ms', mu', ml', mz', c1', c2', mpa', mwe', mli', mvo', mro', mpl', hq, hI'⟩
        · rw [if_neg (show ¬ zb true = 0 by decide)]
          rw [hu] at hq hI'
          exact ⟨0, _, _, _, _, _, _, _, _, _, _, _, _, _, _, _, _, _, rfl, us', me', rc', dn', lf', mw', mf', ms', mu', ml', mz', c1', c2', mpa', mwe', mli', mvo', mro', mpl', hq, hI'⟩
      · obtain ⟨cw', bl', pos', crc', ek', es', ew', ev', hca, hCs⟩ := canew_1 hT hn hTA h64 hnb hroom hG.1 rfl (by omega) k1 (nI (endR rs)) l mw mf γ cw bl hLF
        have hmc := mcompact hT hn hM h64 hnb hroom false hG.1 rfl (by omega) (nI (endR rs)) rc (nI (uc (svs rs))) mz mro mpl l mw mf γ hl
        have hce := cp_end h64 hnb (u := false) hG rfl hst.1 hst.2.1 hst.2.2 hCs hok hn hCk (nI (endR rs)) qn hmc
        rw [if_pos (show (1 : Int32) - iuO true = 0 from rfl)]
        have hca : fX3_writeAnew_1 k1 true cw bl mw mf nb (bA true β γ) (bB true β γ) (iuO true) (nI (endR rs)) pa we vo (nI t.1) t.2.2.2.2 = _ := hca
        rw [hca, Option.bind_some]
        dsimp only
        generalize finA t nb (true, l, mw, mf, 0, γ) (numB β 0 4 + 1) = W at hce ⊢
        generalize cA t nb (true, l, mw, mf, 0, γ) t.1 = An at hce ⊢
        obtain ⟨us', me', rc', dn', lf', mw', mf', ms', mu', ml', mz', c1', c2', mpa', mwe', mli', mvo', mro', mpl', hq, hI'⟩ := hce
        cases hu : W.1
        · rw [if_pos (show zb false = 0 from rfl)]
          rw [hu] at hq hI'
          exact ⟨-1, _, _, _, _, _, _, _, _, _, _, _, _, _, _, _, _, _, rfl, us', me', rc', dn', lf', mw', mf', ms', mu', ml', mz', c1', c2', mpa', mwe', mli', mvo', mro', mpl', hq, hI'⟩
        · rw [if_neg (show ¬ zb true = 0 by decide)]
          rw [hu] at hq hI'
          exact ⟨0, _, _, _, _, _, _, _, _, _, _, _, _, _, _, _, _, _, rfl, us', me', rc', dn', lf', mw', mf', ms', mu', ml', mz', c1', c2', mpa', mwe', mli', mvo', mro', mpl', hq, hI'⟩
    · rw [if_pos (nI_lt (by omega) (by omega)), Option.bind_some, if_pos (show zb false = 0 from rfl), if_neg (nI_ge (by omega) (by omega))]
      exact ⟨-6, _, _, _, _, _, pb, pos, crc, _, _, _, _, ek, es, ew, ev, _, rfl, _, _, rc, _, _, _, _, _, _, _, mz, _, _, _, _, _, _, mro, mpl, rfl, hI1⟩
