/-! 57.ops: the five acts -/
theorem app_nil' (L : List Nat) : L ++ [] = L := List.append_nil L
theorem row1 (mro : Nat → Int32) {w : Nat} (hw : w < 2 ^ 31) (x : Int64) : ∃ z1 r1 z2 r2 r3, fX9_begin mro (1 : Int32) = some (z1, r1) ∧ fX9_u1 z1 r1 (nI w) = some (z2, r2) ∧ fX9_u8 z2 r2 x = some (nI (body 1 0 w x).length, r3) ∧ RowIs r3 0 (body 1 0 w x) := by
  obtain ⟨r1, a1, q1⟩ := begin_ok mro (k := 1) (by omega) (by omega)
  obtain ⟨r2, a2, q2⟩ := u1_ok (by rw [List.length_append, nbs_len, nbs_len]; omega) q1 (nI w)
  rw [nI_l hw] at a2 q2
  obtain ⟨r3, a3, q3⟩ := u8_ok (by rw [List.length_append, List.length_append, nbs_len, nbs_len, nbs_len]; omega) q2 x
  have e : body 1 0 w x = nbs (lN (lenN 1)) 2 ++ nbs (lN 1) 1 ++ nbs (lN w) 1 ++ nbs x 8 := by
    show nbs (lN (lenN 1)) 2 ++ (nbs (lN 1) 1 ++ ([] ++ (nbs (lN w) 1 ++ nbs x 8))) = _
    simp only [List.append_assoc, List.nil_append]
  rw [e]
  exact ⟨_, r1, _, r2, r3, a1, a2, a3, q3⟩
theorem row26 (mro : Nat → Int32) {k s w : Nat} (hk : k = 2 ∨ k = 6) (hs : s < 2 ^ 31) (hw : w < 2 ^ 31) (x : Int64) : ∃ z1 r1 z2 r2 z3 r3 r4, fX9_begin mro (nI k) = some (z1, r1) ∧ fX9_u2 z1 r1 (nI s) = some (z2, r2) ∧ fX9_u1 z2 r2 (nI w) = some (z3, r3) ∧ fX9_u8 z3 r3 x = some (nI (body k s w x).length, r4) ∧ RowIs r4 0 (body k s w x) := by
  obtain ⟨r1, a1, q1⟩ := begin_ok mro (k := k) (by omega) (by omega)
  obtain ⟨r2, a2, q2⟩ := u2_ok (by rw [List.length_append, nbs_len, nbs_len]; omega) q1 (nI s)
  rw [nI_l hs] at a2 q2
  obtain ⟨r3, a3, q3⟩ := u1_ok (by rw [List.length_append, List.length_append, nbs_len, nbs_len, nbs_len]; omega) q2 (nI w)
  rw [nI_l hw] at a3 q3
  obtain ⟨r4, a4, q4⟩ := u8_ok (by rw [List.length_append, List.length_append, List.length_append, nbs_len, nbs_len, nbs_len, nbs_len]; omega) q3 x
  have e : body k s w x = nbs (lN (lenN k)) 2 ++ nbs (lN k) 1 ++ nbs (lN s) 2 ++ nbs (lN w) 1 ++ nbs x 8 := by
    have : body k s w x = nbs (lN (lenN k)) 2 ++ (nbs (lN k) 1 ++ (nbs (lN s) 2 ++ (nbs (lN w) 1 ++ nbs x 8))) := by rcases hk with rfl | rfl <;> rfl
    rw [this]
    simp only [List.append_assoc]
  rw [e]
  exact ⟨_, r1, _, r2, _, r3, r4, a1, a2, a3, a4, q4⟩
theorem row3 (mro : Nat → Int32) {s w : Nat} (hs : s < 2 ^ 31) (hw : w < 2 ^ 31) : ∃ z1 r1 z2 r2 r3, fX9_begin mro (3 : Int32) = some (z1, r1) ∧ fX9_u2 z1 r1 (nI s) = some (z2, r2) ∧ fX9_u1 z2 r2 (nI w) = some (nI (body 3 s w 0).length, r3) ∧ RowIs r3 0 (body 3 s w 0) := by
  obtain ⟨r1, a1, q1⟩ := begin_ok mro (k := 3) (by omega) (by omega)
  obtain ⟨r2, a2, q2⟩ := u2_ok (by rw [List.length_append, nbs_len, nbs_len]; omega) q1 (nI s)
  rw [nI_l hs] at a2 q2
  obtain ⟨r3, a3, q3⟩ := u1_ok (by rw [List.length_append, List.length_append, nbs_len, nbs_len, nbs_len]; omega) q2 (nI w)
  rw [nI_l hw] at a3 q3
  have e : body 3 s w 0 = nbs (lN (lenN 3)) 2 ++ nbs (lN 3) 1 ++ nbs (lN s) 2 ++ nbs (lN w) 1 := by
    show nbs (lN (lenN 3)) 2 ++ (nbs (lN 3) 1 ++ (nbs (lN s) 2 ++ (nbs (lN w) 1 ++ []))) = _
    simp only [List.append_assoc, List.append_nil]
  rw [e]
  exact ⟨_, r1, _, r2, r3, a1, a2, a3, q3⟩
theorem row4 (mro : Nat → Int32) {s : Nat} (hs : s < 2 ^ 31) : ∃ z1 r1 r2, fX9_begin mro (4 : Int32) = some (z1, r1) ∧ fX9_u2 z1 r1 (nI s) = some (nI (body 4 s 0 0).length, r2) ∧ RowIs r2 0 (body 4 s 0 0) := by
  obtain ⟨r1, a1, q1⟩ := begin_ok mro (k := 4) (by omega) (by omega)
  obtain ⟨r2, a2, q2⟩ := u2_ok (by rw [List.length_append, nbs_len, nbs_len]; omega) q1 (nI s)
  rw [nI_l hs] at a2 q2
  have e : body 4 s 0 0 = nbs (lN (lenN 4)) 2 ++ nbs (lN 4) 1 ++ nbs (lN s) 2 := by
    show nbs (lN (lenN 4)) 2 ++ (nbs (lN 4) 1 ++ (nbs (lN s) 2 ++ ([] ++ []))) = _
    simp only [List.append_assoc, List.append_nil]
  rw [e]
  exact ⟨_, r1, r2, a1, a2, q2⟩
theorem row5 (mro : Nat → Int32) : ∃ r1, fX9_begin mro (5 : Int32) = some (nI (body 5 0 0 0).length, r1) ∧ RowIs r1 0 (body 5 0 0 0) := by
  obtain ⟨r1, a1, q1⟩ := begin_ok mro (k := 5) (by omega) (by omega)
  have e : body 5 0 0 0 = nbs (lN (lenN 5)) 2 ++ nbs (lN 5) 1 := by
    show nbs (lN (lenN 5)) 2 ++ (nbs (lN 5) 1 ++ ([] ++ ([] ++ []))) = _
    simp only [List.append_nil]
  rw [e]
  exact ⟨r1, a1, q1⟩
theorem row7 (mro : Nat → Int32) (x : Int64) : ∃ z1 r1 r2, fX9_begin mro (7 : Int32) = some (z1, r1) ∧ fX9_u8 z1 r1 x = some (nI (body 7 0 0 x).length, r2) ∧ RowIs r2 0 (body 7 0 0 x) := by
  obtain ⟨r1, a1, q1⟩ := begin_ok mro (k := 7) (by omega) (by omega)
  obtain ⟨r2, a2, q2⟩ := u8_ok (by rw [List.length_append, nbs_len, nbs_len]; omega) q1 x
  have e : body 7 0 0 x = nbs (lN (lenN 7)) 2 ++ nbs (lN 7) 1 ++ nbs x 8 := by
    show nbs (lN (lenN 7)) 2 ++ (nbs (lN 7) 1 ++ ([] ++ ([] ++ nbs x 8))) = _
    simp only [List.append_assoc, List.nil_append]
  rw [e]
  exact ⟨_, r1, r2, a1, a2, q2⟩
abbrev OpC : Type := Int32 × Bool × Bool × Int32 × Int32 × Int32 × Nat × Int32 × Int32 × (Nat → Int32) × (Nat → Int32) × Int32 × Int32 × Int32 × Int32 × Int64 × (Nat → Int32) × (Nat → Int32) × (Nat → Int64) × Int32 × Int64 × (Nat → Int32) × (Nat → Int64) × (Nat → Int32) × (Nat → Int32) × (Nat → Int64) × Int32
abbrev OpM : Type := Int32 × Int32 × Int32 × Bool × Int32 × Int32 × Int32 × Int32 × Int32 × Int64 × Int32 × (Nat → Int32) × (Nat → Int32) × (Nat → Int32) × (Nat → Int32) × (Nat → Int32) × (Nat → Int64) × (Nat → Int32) × (Nat → Int32)
def OpRes (nb g : Nat) (iu us : Int32) (o : Option OpC) (q : Option OpM) : Prop := ∃ r up cw bl wr fa pb pos crc b1 b2 en ek es ew ev pa we vo sa lo qs ql qt qw qv qn, o = some (r, up, cw, bl, wr, fa, pb, pos, crc, b1, b2, en, ek, es, ew, ev, pa, we, vo, sa, lo, qs, ql, qt, qw, qv, qn) ∧ ∃ me rc dn lf mw mf ms mu ml mz c1 c2 mpa mwe mli mvo mro mpl, q = some (r, me, rc, dn, lf, mw, mf, ms, mu, ml, mz, c1, c2, mpa, mwe, mli, mvo, mro, mpl) ∧ Inv nb g en up cw bl wr fa b1 b2 sa lo pa we vo qn qs ql qt qw qv iu me dn lf mw mf ms mu ml c1 c2 mpa mwe mli mvo us
theorem OpRes.same {nb g : Nat} {en : Int32} {up cw : Bool} {bl wr fa : Int32} {b1 b2 : Nat → Int32} {sa : Int32} {lo : Int64} {pa we : Nat → Int32} {vo : Nat → Int64} {qn : Int32} {qs : Nat → Int32} {ql : Nat → Int64} {qt qw : Nat → Int32} {qv : Nat → Int64} {iu me : Int32} {dn : Bool} {lf mw mf ms mu : Int32} {ml : Int64} {c1 c2 mpa mwe mli : Nat → Int32} {mvo : Nat → Int64} {us : Int32} (h : Inv nb g en up cw bl wr fa b1 b2 sa lo pa we vo qn qs ql qt qw qv iu me dn lf mw mf ms mu ml c1 c2 mpa mwe mli mvo us) (r : Int32) (pb : Nat) (pos crc ek es ew : Int32) (ev : Int64) (rc mz : Int32) (mro mpl : Nat → Int32) : OpRes nb g iu us (some (r, up, cw, bl, wr, fa, pb, pos, crc, b1, b2, en, ek, es, ew, ev, pa, we, vo, sa, lo, qs, ql, qt, qw, qv, qn)) (some (r, me, rc, dn, lf, mw, mf, ms, mu, ml, mz, c1, c2, mpa, mwe, mli, mvo, mro, mpl)) := ⟨_, _, _, _, _, _, _, _, _, _, _, _, _, _, _, _, _, _, _, _, _, _, _, _, _, _, _, rfl, _, _, _, _, _, _, _, _, _, _, _, _, _, _, _, _, _, _, rfl, h⟩
theorem co_ref {k1 k2 : Nat} {up cw : Bool} {bl wr fa : Int32} {pb : Nat} {pos crc : Int32} {nb : Nat} {b1 b2 : Nat → Int32} {iu en ek es ew : Int32} {ev : Int64} {pa we : Nat → Int32} {vo : Nat → Int64} {sa : Int32} {lo : Int64} {qs : Nat → Int32} {ql : Nat → Int64} {qt qw : Nat → Int32} {qv : Nat → Int64} {qn : Int32} {p : Int32} (h : ¬ p = 0) : fX8_carryOut k1 k2 up cw bl wr fa pb pos crc nb b1 b2 iu en ek es ew ev pa we vo sa lo qs ql qt qw qv qn p = some (p, up, cw, bl, wr, fa, pb, pos, crc, b1, b2, en, pa, we, vo, sa, lo, qs, ql, qt, qw, qv, qn) := if_neg h
theorem act_ok' {nb g : Nat} (h64 : 64 ≤ nb) (hnb : nb ≤ 2048) (k1 k2 : Nat) {v : Bool} {β γ : Nat → Nat} {rs : List Rec} (hγ : ∀ i, γ i < 256) (hG : Good nb g γ β rs) (hz : Zt β (endR rs) nb) {pa we vo sa lo qs ql qt qw qv qn} (hC : CTb rs pa we vo sa lo qs ql qt qw qv qn) {ms ml mpa mwe mli mvo} (hM : MT (run (svs rs)) ms ml mpa mwe mli mvo) (k s w : Nat) (x : Int64) (hok : okR (run (svs rs)) (uc (svs rs)) (k, s, w, x)) (he : endR rs + lenN k ≤ nb) {cw : Bool} {bl : Int32} {l : Option Nat} (hLF : LF cw bl l) (hl : okL l) (wr fa : Int32) (pb : Nat) (pos crc rc mu : Int32) {mro : Nat → Int32} (hrow : RowIs mro 0 (body k s w x)) (mpl : Nat → Int32) {ek es ew mz : Int32} (e1 : ek = nI k) (e2 : es = nI s) (e3 : ew = nI w) (e4 : mz = nI (body k s w x).length) :
    ActRes nb g (iuO v) (iuO v) (fX8_carryOut k1 k2 true cw bl wr fa pb pos crc nb (bA v β γ) (bB v β γ) (iuO v) (nI (endR rs)) ek es ew x pa we vo sa lo qs ql qt qw qv qn 0) (fX9_acts nb (nI nb) (iuO v) (nI (endR rs)) rc false (MF l) wr fa ms mu ml mz (bA v β γ) (bB v β γ) mpa mwe mli mvo mro mpl) := by
  subst e1 e2 e3 e4
  exact act_ok h64 hnb k1 k2 hγ hG hz hC hM (k, s, w, x) hok he hLF hl _ _ pb pos crc rc mu hrow mpl
theorem refW_ok (ew : Int32) (we : Nat → Int32) (sa p : Int32) {x : Int32} (hx : wlB ew = true → fX7_sampleIn we sa ew = some x) : fX8_refusalOfWell true ew we sa p = some (if p = 0 then -2 else if wlB ew = false then -2 else if x = -1 then 0 else -3) := by
  unfold fX8_refusalOfWell
  rw [if_neg (show ¬ zb true = 0 by decide)]
  by_cases h1 : p = 0
  · rw [if_pos h1, if_pos h1]
  · rw [if_neg h1, if_neg h1, cwell, Option.bind_some]
    cases hw : wlB ew
    · rw [if_pos (show zb false = 0 from rfl), if_pos rfl]
    · rw [if_neg (show ¬ zb true = 0 by decide), if_neg (by decide), hx hw, Option.bind_some]
      split <;> rfl
theorem refN_ok {nb e k : Nat} (hnb : nb ≤ 2048) (he : e ≤ nb) (h1 : 1 ≤ k) (h7 : k ≤ 7) {n : Nat} (hn : n ≤ 120) {ek : Int32} (hek : ek = nI k) (ew : Int32) (ev : Int64) (we : Nat → Int32) (p : Int32) (a : Int64) {x : Int32} (hx : wlB ew = true → fX7_sampleIn we (nI n) ew = some x) : fX8_refusalOfNewSample true nb (nI e) ek ew ev we (nI n) p a = some (if p = 0 then -2 else if wlB ew = false then -2 else if ¬ x = -1 then -3 else if ev < 1 then -4 else if ¬ ev ≤ a then -4 else if n = 120 then -5 else if nb < e + lenN k then -6 else 0) := by
  subst hek
  unfold fX8_refusalOfNewSample
  rw [refW_ok ew we (nI n) p hx, Option.bind_some]
  by_cases g1 : p = 0
  · rw [if_pos g1, if_pos g1, if_neg (by decide)]
  · rw [if_neg g1, if_neg g1]
    by_cases g2 : wlB ew = false
    · rw [if_pos g2, if_pos g2, if_neg (by decide)]
    · rw [if_neg g2, if_neg g2]
      by_cases g3 : x = -1
      · rw [if_pos g3, if_pos rfl, if_neg (show ¬ ¬ x = -1 from fun h => h g3)]
        by_cases g4 : ev < 1
        · rw [if_pos ((lg_cmp_lt ev 1).mpr g4), if_pos g4]
        · rw [if_neg (fun h => g4 ((lg_cmp_lt ev 1).mp h)), if_neg g4]
          by_cases g5 : ev ≤ a
          · rw [if_pos ((lg_cmp_le ev a).mpr g5), if_neg (show ¬ ¬ ev ≤ a from fun h => h g5)]
            unfold fX7_isFull
            by_cases g6 : n = 120
            · rw [if_neg (show ¬ nI n < (120 : Int32) from nI_nlt (a := n) (b := 120) (by omega) (by omega)), Option.bind_some, if_neg (show ¬ zb true = 0 by decide), if_pos g6]
            · rw [if_pos (show nI n < (120 : Int32) from nI_lt (a := n) (b := 120) (by omega) (by omega)), Option.bind_some, if_pos (show zb false = 0 from rfl), room_c hnb he h1 h7, Option.bind_some, if_neg g6]
          · rw [if_neg (fun h => g5 ((lg_cmp_le ev a).mp h)), if_pos g5]
      · rw [if_neg g3, if_neg (by decide), if_pos g3]
theorem sim_discard {nb g : Nat} {en : Int32} {up cw : Bool} {bl wr fa : Int32} {b1 b2 : Nat → Int32} {sa : Int32} {lo : Int64} {pa we : Nat → Int32} {vo : Nat → Int64} {qn : Int32} {qs : Nat → Int32} {ql : Nat → Int64} {qt qw : Nat → Int32} {qv : Nat → Int64} {iu me : Int32} {dn : Bool} {lf mw mf ms mu : Int32} {ml : Int64} {c1 c2 mpa mwe mli : Nat → Int32} {mvo : Nat → Int64} {us : Int32} (h64 : 64 ≤ nb) (hnb : nb ≤ 2048) (hI : Inv nb g en up cw bl wr fa b1 b2 sa lo pa we vo qn qs ql qt qw qv iu me dn lf mw mf ms mu ml c1 c2 mpa mwe mli mvo us) (k1 k2 pb : Nat) (pos crc rc mz : Int32) (mro mpl : Nat → Int32) (p1 : Int32) : OpRes nb g iu us (fX8_discard k1 k2 up cw bl wr fa pb pos crc nb b1 b2 iu en pa we vo sa lo qs ql qt qw qv qn p1) (fX9_discard nb (nI nb) us me rc dn lf mw mf ms mu ml mz c1 c2 mpa mwe mli mvo mro mpl p1) := by
  obtain ⟨rfl, rfl, rfl, rfl, rfl, ⟨n0, hn0, hsa0⟩, ⟨l, hLF, hl, rfl, hnl⟩, v, β, γ, rs, hγ, rfl, rfl, hG, hU⟩ := id hI
  cases up
  · exact OpRes.same hI (-1) pb pos crc 4 p1 0 0 rc mz mro mpl
  ·
    obtain ⟨rfl, rfl, rfl, rfl, hz, hC, hM, rfl⟩ := hU rfl
    have hWs := val_wf rs hG.2.2.2.2.1
    have hn := run_le _ hWs
    have hso := hWs.sum
    have hen := hG.2.2.2.2.2.1
    have hsa := hC.1
    have hTA := hC.2.2.2.1
    have hlo := hC.2.1
    have hqn := hC.2.2.1
    have hms := hM.1
    have hml := hM.2.1
    unfold fX8_discard fX9_discard
    rw [if_neg (show ¬ zb true = 0 by decide), if_pos (show zb (!true) = 0 from rfl), hsa, clive hn hTA, Option.bind_some, mlive hn hM, Option.bind_some, ← hsa]
    cases hlv : lvB (run (svs rs)) p1
    · rw [if_pos (show zb false = 0 from rfl), if_pos (show zb false = 0 from rfl)]
      exact OpRes.same hI (-2) pb pos crc 4 p1 0 0 rc mz mro mpl
    · rw [if_neg (show ¬ zb true = 0 by decide), if_neg (show ¬ zb true = 0 by decide)]
      obtain ⟨s, hs1, hs2, rfl, hlive⟩ := lvB_true hlv
      have hrc : fX8_refusalOfRoom nb (nI (endR rs)) (4 : Int32) = _ := room_c hnb hen (k := 4) (by omega) (by omega)
      have hrm : fX9_hasRoom (nI nb) (nI (endR rs)) (4 : Int32) = _ := room_m hnb hen (k := 4) (by omega) (by omega)
      rw [hrc, Option.bind_some, hrm, Option.bind_some]
      by_cases hroom : nb < endR rs + lenN 4
      · rw [if_pos hroom, decide_eq_true hroom, co_ref (p := -6) (by decide), Option.bind_some, if_pos (show zb (!true) = 0 from rfl)]
        exact OpRes.same hI (-6) pb pos crc 4 (nI s) 0 0 rc mz mro mpl
      · rw [if_neg hroom, decide_eq_false hroom, if_neg (show ¬ zb (!false) = 0 by decide)]
        obtain ⟨z1, r1, r2, a1, a2, hrow⟩ := row4 mro (s := s) (by omega)
        obtain ⟨ans, up', cw', bl', wr', fa', pb', pos', crc', b1', b2', en', pa', we', vo', sa', lo', qs', ql', qt', qw', qv', qn', ho, ok, me', rc', dn', lf', mw', mf', ms', mu', ml', mz', c1', c2', mpa', mwe', mli', mvo', mro', mpl', hq, hans, hI'⟩ := act_ok' h64 hnb k1 k2 (v := v) hγ hG hz hC hM 4 s 0 0 (.inr (.inr (.inr (.inl ⟨rfl, ⟨hs1, hs2⟩, rfl, rfl⟩)))) (by omega) hLF hl _ _ pb pos crc rc (nI (uc (svs rs))) hrow mpl (ek := 4) (es := (nI s)) (ew := 0) rfl rfl rfl rfl
        rw [ho, Option.bind_some, a1, Option.bind_some]
        dsimp only
        rw [a2, Option.bind_some]
        dsimp only
        rw [show (!true) = false from rfl, hq, Option.bind_some]
        dsimp only
        rcases hans with ⟨rfl, rfl, e1, e2⟩ | ⟨rfl, rfl⟩
        · rw [if_neg (show ¬ zb true = 0 by decide)]
          exact ⟨_, _, _, _, _, _, _, _, _, _, _, _, _, _, _, _, _, _, _, _, _, _, _, _, _, _, _, rfl, _, _, _, _, _, _, _, _, _, _, _, _, _, _, _, _, _, _, rfl, hI'⟩
        · rw [if_pos (show zb false = 0 from rfl)]
          exact ⟨_, _, _, _, _, _, _, _, _, _, _, _, _, _, _, _, _, _, _, _, _, _, _, _, _, _, _, rfl, _, _, _, _, _, _, _, _, _, _, _, _, _, _, _, _, _, _, rfl, hI'⟩
