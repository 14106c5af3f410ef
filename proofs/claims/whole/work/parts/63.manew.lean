/-! 63.manew: the reference writes the other bank -/
abbrev MCTup : Type := Int32 × Int32 × Int32 × Int32 × Bool × Int32 × Int32 × Int32 × Int32 × Int32 × Int64 × Int32 × (Nat → Int32) × (Nat → Int32) × (Nat → Int32) × (Nat → Int32) × (Nat → Int32) × (Nat → Int64) × (Nat → Int32) × (Nat → Int32)
theorem mwr {nb : Nat} (hnb : nb ≤ 2048) (u : Bool) (β : Nat → Nat) (l : Option Nat) (wr fa : Int32) (i : Nat) (γ : Nat → Nat) (hi : i < nb) (hl : okL l) : fX9_write nb false (MF l) wr fa (bA u γ β) (bB u γ β) (iuO u) (nI i) (0 : Int32) = some ((wb (true, l, wr, fa, i, γ) 0).1, !(wb (true, l, wr, fa, i, γ) 0).1, MF (wb (true, l, wr, fa, i, γ) 0).2.1, (wb (true, l, wr, fa, i, γ) 0).2.2.1, (wb (true, l, wr, fa, i, γ) 0).2.2.2.1, bA u (wb (true, l, wr, fa, i, γ) 0).2.2.2.2.2 β, bB u (wb (true, l, wr, fa, i, γ) 0).2.2.2.2.2 β) := by
  have e : sb_b 0 = (0 : Int32) := by decide
  cases u
  · have h := mwrite1 (nb := nb) (by omega) l wr fa i γ 0 hi hl (sbk β)
    rw [e] at h
    exact h
  · have h := mwrite2 (nb := nb) (by omega) l wr fa i γ 0 hi hl (sbk β)
    rw [e] at h
    exact h
theorem m47s {nb : Nat} (hnb : nb ≤ 2048) (u : Bool) (β : Nat → Nat) (us me rc ms mu : Int32) (ml : Int64) (mz : Int32) (mpa mwe mli : Nat → Int32) (mvo : Nat → Int64) (mro mpl : Nat → Int32) (i f : Nat) (l : Option Nat) (wr fa : Int32) (γ : Nat → Nat) (hi : i < nb) (hl : okL l) (A : Aw) (hA : wb (true, l, wr, fa, i, γ) 0 = A) : fX9_compact_47 nb (nI nb) us me rc ms mu ml mz mpa mwe mli mvo mro mpl (f + 1) (iuO u) (nI i) false (MF l) wr fa (bA u γ β) (bB u γ β) = if A.1 = true then fX9_compact_47 nb (nI nb) us me rc ms mu ml mz mpa mwe mli mvo mro mpl f (iuO u) (nI (i + 1)) false (MF A.2.1) A.2.2.1 A.2.2.2.1 (bA u A.2.2.2.2.2 β) (bB u A.2.2.2.2.2 β) else some ((-1 : Int32), us, me, rc, true, MF A.2.1, A.2.2.1, A.2.2.2.1, ms, mu, ml, mz, bA u A.2.2.2.2.2 β, bB u A.2.2.2.2.2 β, mpa, mwe, mli, mvo, mro, mpl) := by
  have hw := mwr hnb u β l wr fa i γ hi hl
  rw [hA] at hw
  rw [fX9_compact_47, if_neg (nI_ge (by omega) (by omega)), hw, Option.bind_some, nI_1]
  dsimp only
  cases A.1
  · rw [if_pos (show zb false = 0 from rfl), if_neg (by decide)]
    rfl
  · rw [if_neg (show ¬ zb true = 0 by decide), if_pos rfl]
    rfl
theorem m47 {nb : Nat} (hnb : nb ≤ 2048) (u : Bool) (β : Nat → Nat) (us me rc ms mu : Int32) (ml : Int64) (mz : Int32) (mpa mwe mli : Nat → Int32) (mvo : Nat → Int64) (mro mpl : Nat → Int32) : ∀ (d i f : Nat) (l : Option Nat) (wr fa : Int32) (γ : Nat → Nat), i + d = nb → d < f → okL l → ∀ W, wbs (zl d) (true, l, wr, fa, i, γ) = W →
    (W.1 = true → ∃ f', fX9_compact_47 nb (nI nb) us me rc ms mu ml mz mpa mwe mli mvo mro mpl f (iuO u) (nI i) false (MF l) wr fa (bA u γ β) (bB u γ β) = fX9_compact_47 nb (nI nb) us me rc ms mu ml mz mpa mwe mli mvo mro mpl (f' + 1) (iuO u) (nI nb) false (MF W.2.1) W.2.2.1 W.2.2.2.1 (bA u W.2.2.2.2.2 β) (bB u W.2.2.2.2.2 β)) ∧
    (W.1 = false → fX9_compact_47 nb (nI nb) us me rc ms mu ml mz mpa mwe mli mvo mro mpl f (iuO u) (nI i) false (MF l) wr fa (bA u γ β) (bB u γ β) = some ((-1 : Int32), us, me, rc, true, MF W.2.1, W.2.2.1, W.2.2.2.1, ms, mu, ml, mz, bA u W.2.2.2.2.2 β, bB u W.2.2.2.2.2 β, mpa, mwe, mli, mvo, mro, mpl))
  | 0, i, f + 1, l, wr, fa, γ, h, _, hl, W, hW => by
    have hW : (true, l, wr, fa, i, γ) = W := hW
    subst hW
    have hi : i = nb := by omega
    subst hi
    exact ⟨fun _ => ⟨f, rfl⟩, fun h => by cases h⟩
  | d + 1, i, f + 1, l, wr, fa, γ, h, hf, hl, W, hW => by
    have hok := okL_wb (true, l, wr, fa, i, γ) 0 hl
    have hup := @wb_up_pos (true, l, wr, fa, i, γ) 0
    have hW : wbs (zl d) (wb (true, l, wr, fa, i, γ) 0) = W := hW
    have hs := m47s hnb u β us me rc ms mu ml mz mpa mwe mli mvo mro mpl i f l wr fa γ (by omega) hl _ rfl
    generalize wb (true, l, wr, fa, i, γ) 0 = A at hok hup hW hs
    obtain ⟨up', l', wr', fa', p', γ'⟩ := A
    cases up'
    · rw [wbs_down _ _ rfl] at hW
      subst hW
      exact ⟨fun h => (by cases h), fun _ => hs⟩
    · have hp : p' = i + 1 := (hup rfl).2
      subst hp
      have ih := m47 hnb u β us me rc ms mu ml mz mpa mwe mli mvo mro mpl d (i + 1) f l' wr' fa' γ' (by omega) (by omega) hok W hW
      exact ⟨fun h => (by obtain ⟨f', e⟩ := ih.1 h; exact ⟨f', hs.trans e⟩), fun h => hs.trans (ih.2 h)⟩
theorem head_row (mro : Nat → Int32) {g : Nat} (hg : g < 2 ^ 31) : ∃ z1 r1 c z2 r2 z3 r3, fX9_u4 (0 : Int32) mro (nI g) = some (z1, r1) ∧ fX9_crc 32 r1 (0 : Int32) (4 : Int32) = some c ∧ fX9_u4 z1 r1 c = some (z2, r2) ∧ fX9_u1 z2 r2 (165 : Int32) = some (z3, r3) ∧ z3 = nI (headL g).length ∧ RowIs r3 0 (headL g) := by
  obtain ⟨r1, h1, q1⟩ := u4_b (r := mro) (L := []) (by show 0 + 4 ≤ 32; omega) trivial (nI g)
  have h1 : fX9_u4 (0 : Int32) mro (nI g) = some (nI (nbs (nI g).toInt64 4).length, r1) := h1
  have q1 : RowIs r1 0 (nbs (nI g).toInt64 4) := q1
  rw [nI_l hg] at h1 q1
  have hl4 := nbs_len (lN g) 4
  have hsm := small_nbs (lN g) 4
  unfold headL
  generalize nbs (lN g) 4 = L at h1 q1 hl4 hsm ⊢
  have hc : fX9_crc 32 r1 (0 : Int32) (4 : Int32) = some (L.foldl cstep (-1) ^^^ (-1 : Int32)) := by
    have := crc5g r1 (nb := 32) (by omega) L.length 0 FU (-1) (by omega) (by show L.length < 4096; omega)
    rw [Nat.zero_add, crcR_list L 0 (-1) (row_bytes L 0 hsm q1), hl4] at this
    exact this
  obtain ⟨r2, h2, q2⟩ := u4_b (by omega) q1 (L.foldl cstep (-1) ^^^ (-1 : Int32))
  obtain ⟨r3, h3, q3⟩ := u1_b (L := L ++ nbs (L.foldl cstep (-1) ^^^ (-1 : Int32)).toInt64 4) (by rw [List.length_append, nbs_len]; omega) q2 (165 : Int32)
  have e165 : byteI (165 : Int32) 0 = 165 := by decide
  rw [e165] at h3 q3
  unfold clo
  rw [← List.append_assoc]
  exact ⟨_, r1, _, _, r2, _, r3, h1, hc, h2, h3, rfl, q3⟩
theorem enc_row {mro : Nat → Int32} (k s w : Nat) (x : Int64) (h : RowIs mro 0 (body k s w x)) : ∃ r, fX9_checked (nI (body k s w x).length) mro = some (nI (enc k s w x).length, r) ∧ RowIs r 0 (enc k s w x) := checked_ok (body_len32 k s w x) (small_body k s w x) h
theorem mgen_u {β γ : Nat → Nat} (hβ : ∀ i, β i < 256) {nb : Nat} (h64 : 64 ≤ nb) (hnb : nb ≤ 2048) (u : Bool) : fX9_generation nb (bA u γ β) (bB u γ β) (iuO (!u)) = some (lN (numB β 0 4)) := by
  cases u
  · exact mgen_2 hβ h64 hnb (sbk γ)
  · exact mgen_1 hβ h64 hnb (sbk γ)
/-- what the reference's compact answers, from the last state of the pen -/
def MEnd (nb : Nat) (us me rc ms mu : Int32) (ml : Int64) (mpa mwe mli : Nat → Int32) (mvo : Nat → Int64) (mpl : Nat → Int32) (u : Bool) (β : Nat → Nat) (W : Aw) (q : Option MCTup) : Prop := ∃ mz' mro',
  (W.1 = false → q = some ((-1 : Int32), us, me, rc, true, MF W.2.1, W.2.2.1, W.2.2.2.1, ms, mu, ml, mz', bA u W.2.2.2.2.2 β, bB u W.2.2.2.2.2 β, mpa, mwe, mli, mvo, mro', mpl)) ∧
  (W.1 = true → ∀ a b c d e f g h i j, (match u with | false => fX9_reads_1 nb (nI nb) (iuO u) (bA u W.2.2.2.2.2 β) (bB u W.2.2.2.2.2 β) mpa mwe mli mvo mpl | true => fX9_reads_2 nb (nI nb) (iuO u) (bA u W.2.2.2.2.2 β) (bB u W.2.2.2.2.2 β) mpa mwe mli mvo mpl) = some (a, b, c, d, e, f, g, h, i, j) → q = some ((0 : Int32), iuO u, a, b, false, MF W.2.1, W.2.2.1, W.2.2.2.1, c, d, e, mz', bA u W.2.2.2.2.2 β, bB u W.2.2.2.2.2 β, f, g, h, i, mro', j))
theorem m114e {t : Tab} (hn : t.1 ≤ 120) {nb : Nat} (h64 : 64 ≤ nb) (hnb : nb ≤ 2048) (u : Bool) {β : Nat → Nat} (hβ : ∀ i, β i < 256) {m : Nat} (hm : numB β 0 4 = m) (hm2 : m + 1 < 2 ^ 31) (me rc mu : Int32) (ml : Int64) (mpa mwe mli : Nat → Int32) (mvo : Nat → Int64) (mpl : Nat → Int32) (f p : Nat) (l : Option Nat) (wr fa : Int32) (γ : Nat → Nat) (mz : Int32) (mro : Nat → Int32) (at_ : Int32) (hl : okL l) : MEnd nb (iuO (!u)) me rc (nI t.1) mu ml mpa mwe mli mvo mpl u β (wbs (headL (m + 1)) (sp (true, l, wr, fa, p, γ) 0)) (fX9_compact_114 nb (nI nb) (iuO (!u)) me rc (nI t.1) mu ml mpa mwe mli mvo mpl (f + 1) (iuO u) at_ (nI (t.1 + 1)) false (MF l) wr fa mz (bA u γ β) (bB u γ β) mro) := by
  obtain ⟨z1, r1, c, z2, r2, z3, r3, h1, h2, h3, h4, rfl, hr⟩ := head_row mro hm2
  have hw : fX9_writeRow nb false (MF l) wr fa (nI (headL (m + 1)).length) (bA u γ β) (bB u γ β) r3 (iuO u) (0 : Int32) = _ := mrow_ok hnb (headL (m + 1)) (by rw [headL_len]; omega) hr u γ β l wr fa 0 (by rw [headL_len]; omega) hl
  show MEnd nb (iuO (!u)) me rc (nI t.1) mu ml mpa mwe mli mvo mpl u β (wbs (headL (m + 1)) (true, l, wr, fa, 0, γ)) _
  generalize wbs (headL (m + 1)) (true, l, wr, fa, 0, γ) = W at hw ⊢
  refine ⟨nI (headL (m + 1)).length, r3, fun hu => ?_, fun hu a b c' d e f' g h i j hrd => ?_⟩
  · rw [hu] at hw
    rw [fX9_compact_114, if_pos (nI_lt (by omega) (by omega)), mgen_u hβ h64 hnb u, Option.bind_some, hm, lN_i, nI_1, h1, Option.bind_some]
    dsimp only
    rw [h2, Option.bind_some, h3, Option.bind_some]
    dsimp only
    rw [h4, Option.bind_some]
    dsimp only
    rw [hw, Option.bind_some]
    dsimp only
    rw [if_pos (show zb false = 0 from rfl)]
    rfl
  · rw [hu] at hw
    rw [fX9_compact_114, if_pos (nI_lt (by omega) (by omega)), mgen_u hβ h64 hnb u, Option.bind_some, hm, lN_i, nI_1, h1, Option.bind_some]
    dsimp only
    rw [h2, Option.bind_some, h3, Option.bind_some]
    dsimp only
    rw [h4, Option.bind_some]
    dsimp only
    rw [hw, Option.bind_some]
    dsimp only
    rw [if_neg (show ¬ zb true = 0 by decide)]
    cases u
    · dsimp only at hrd
      rw [if_pos (show iuO false = 0 from rfl), hrd, Option.bind_some]
      rfl
    · dsimp only at hrd
      rw [if_neg (show ¬ iuO true = 0 by decide), if_pos (show iuO true = 1 from rfl), hrd, Option.bind_some]
      rfl
theorem MEnd.down {nb : Nat} {us me rc ms mu : Int32} {ml : Int64} {mpa mwe mli : Nat → Int32} {mvo : Nat → Int64} {mpl : Nat → Int32} {u : Bool} {β : Nat → Nat} {W : Aw} {q : Option MCTup} (h : W.1 = false) (mz : Int32) (mro : Nat → Int32) (hq : q = some ((-1 : Int32), us, me, rc, true, MF W.2.1, W.2.2.1, W.2.2.2.1, ms, mu, ml, mz, bA u W.2.2.2.2.2 β, bB u W.2.2.2.2.2 β, mpa, mwe, mli, mvo, mro, mpl)) : MEnd nb us me rc ms mu ml mpa mwe mli mvo mpl u β W q := ⟨mz, mro, fun _ => hq, fun e => by rw [h] at e; cases e⟩
theorem MEnd.downsp {nb : Nat} {us me rc ms mu : Int32} {ml : Int64} {mpa mwe mli : Nat → Int32} {mvo : Nat → Int64} {mpl : Nat → Int32} {u : Bool} {β : Nat → Nat} {B : Aw} (p : Nat) {q : Option MCTup} (h : B.1 = false) (mz : Int32) (mro : Nat → Int32) (hq : q = some ((-1 : Int32), us, me, rc, true, MF B.2.1, B.2.2.1, B.2.2.2.1, ms, mu, ml, mz, bA u B.2.2.2.2.2 β, bB u B.2.2.2.2.2 β, mpa, mwe, mli, mvo, mro, mpl)) : MEnd nb us me rc ms mu ml mpa mwe mli mvo mpl u β (sp B p) q := MEnd.down (W := sp B p) h mz mro hq
theorem m114 {t : Tab} (hT : TabOk t) (hn : t.1 ≤ 120) {ml : Int64} {mpa mwe mli : Nat → Int32} {mvo : Nat → Int64} (hM : MT t (nI t.1) ml mpa mwe mli mvo) {nb : Nat} (h64 : 64 ≤ nb) (hnb : nb ≤ 2048) (hroom : 25 + 19 * t.1 ≤ nb) (u : Bool) {β : Nat → Nat} (hβ : ∀ i, β i < 256) {m : Nat} (hm : numB β 0 4 = m) (hm2 : m + 1 < 2 ^ 31) (me rc mu : Int32) (mpl : Nat → Int32) (A : Aw) : ∀ (d k f : Nat) (l : Option Nat) (wr fa : Int32) (γ : Nat → Nat) (mz : Int32) (mro : Nat → Int32), k + d = t.1 → d < f → okL l → cA t nb A k = (true, l, wr, fa, 25 + 19 * k, γ) → MEnd nb (iuO (!u)) me rc (nI t.1) mu ml mpa mwe mli mvo mpl u β (finA t nb A (m + 1)) (fX9_compact_114 nb (nI nb) (iuO (!u)) me rc (nI t.1) mu ml mpa mwe mli mvo mpl f (iuO u) (nI (25 + 19 * k)) (nI (k + 1)) false (MF l) wr fa mz (bA u γ β) (bB u γ β) mro)
  | 0, k, f + 1, l, wr, fa, γ, mz, mro, hk, _, hl, hA => by
    have hk : k = t.1 := by omega
    subst hk
    rw [finA_d, hA]
    exact m114e hn h64 hnb u hβ hm hm2 me rc mu ml mpa mwe mli mvo mpl f _ l wr fa γ mz mro _ hl
  | d + 1, k, f + 1, l, wr, fa, γ, mz, mro, hk, hf, hl, hA => by
    obtain ⟨hks1, hks2⟩ := kept_s hT hn (k := k + 1) (by omega) (by omega)
    obtain ⟨hkw1, hkw2, hkw3, hkw4⟩ := kept_w hT (k := k + 1) (by omega) (by omega)
    obtain ⟨q1, q2, q3, q4⟩ := hM.2.2 (k + 1) (by omega) (by omega)
    obtain ⟨z1, r1, z2, r2, z3, r3, r4, a1, a2, a3, a4, hrow⟩ := row26 mro (k := 6) (s := keptS t (k + 1)) (w := keptW t (k + 1)) (.inr rfl) (by omega) (by omega) (t.2.2.2.1 (k + 1))
    have a1 : fX9_begin mro (6 : Int32) = some (z1, r1) := a1
    obtain ⟨r5, a5, hrow5⟩ := enc_row 6 (keptS t (k + 1)) (keptW t (k + 1)) (t.2.2.2.1 (k + 1)) hrow
    have hw := mrow_ok hnb (enc 6 (keptS t (k + 1)) (keptW t (k + 1)) (t.2.2.2.1 (k + 1))) (by rw [enc_len, show lenN 6 = 19 from rfl]; omega) hrow5 u γ β l wr fa (25 + 19 * k) (by rw [enc_len, show lenN 6 = 19 from rfl]; omega) hl
    have hok := okL_wbs (enc 6 (keptS t (k + 1)) (keptW t (k + 1)) (t.2.2.2.1 (k + 1))) (true, l, wr, fa, 25 + 19 * k, γ) hl
    have hup := wbs_up_pos (enc 6 (keptS t (k + 1)) (keptW t (k + 1)) (t.2.2.2.1 (k + 1))) (true, l, wr, fa, 25 + 19 * k, γ)
    have hA' : wbs (enc 6 (keptS t (k + 1)) (keptW t (k + 1)) (t.2.2.2.1 (k + 1))) (true, l, wr, fa, 25 + 19 * k, γ) = cA t nb A (k + 1) := by rw [← hA, cA_s]
    rw [hA'] at hw hok hup
    rw [enc_len, show lenN 6 = 19 from rfl] at hw hup a5
    have hstep : fX9_compact_114 nb (nI nb) (iuO (!u)) me rc (nI t.1) mu ml mpa mwe mli mvo mpl (f + 1) (iuO u) (nI (25 + 19 * k)) (nI (k + 1)) false (MF l) wr fa mz (bA u γ β) (bB u γ β) mro = if (cA t nb A (k + 1)).1 = true then fX9_compact_114 nb (nI nb) (iuO (!u)) me rc (nI t.1) mu ml mpa mwe mli mvo mpl f (iuO u) (nI (25 + 19 * (k + 1))) (nI (k + 1 + 1)) false (MF (cA t nb A (k + 1)).2.1) (cA t nb A (k + 1)).2.2.1 (cA t nb A (k + 1)).2.2.2.1 (nI 19) (bA u (cA t nb A (k + 1)).2.2.2.2.2 β) (bB u (cA t nb A (k + 1)).2.2.2.2.2 β) r5 else some ((-1 : Int32), iuO (!u), me, rc, true, MF (cA t nb A (k + 1)).2.1, (cA t nb A (k + 1)).2.2.1, (cA t nb A (k + 1)).2.2.2.1, nI t.1, mu, ml, nI 19, bA u (cA t nb A (k + 1)).2.2.2.2.2 β, bB u (cA t nb A (k + 1)).2.2.2.2.2 β, mpa, mwe, mli, mvo, r5, mpl) := by
      rw [fX9_compact_114, if_neg (nI_nlt (by omega) (by omega)), a1, Option.bind_some]
      dsimp only
      rw [if_pos (ib_nI (by omega) (by omega)), nI_clamp (by omega), q1, ← hks2, a2, Option.bind_some]
      dsimp only
      rw [q3, q2]
      by_cases hwm : t.2.2.1 (k + 1) = -1
      · rw [if_pos hwm, if_pos rfl, show (255 : Int32) = nI (keptW t (k + 1)) by rw [hkw4 hwm]; rfl, a3, Option.bind_some]
        dsimp only
        rw [a4, Option.bind_some]
        dsimp only
        rw [a5, Option.bind_some]
        dsimp only
        rw [hw, Option.bind_some, nI_add, nI_1, show 25 + 19 * k + 19 = 25 + 19 * (k + 1) by omega]
        dsimp only
        cases (cA t nb A (k + 1)).1
        · rw [if_pos (show zb false = 0 from rfl), if_neg (by decide)]
          rfl
        · rw [if_neg (show ¬ zb true = 0 by decide), if_pos rfl]
          rfl
      · rw [if_neg hwm, if_neg (by decide), q4 hwm, ← hkw3 hwm, a3, Option.bind_some]
        dsimp only
        rw [a4, Option.bind_some]
        dsimp only
        rw [a5, Option.bind_some]
        dsimp only
        rw [hw, Option.bind_some, nI_add, nI_1, show 25 + 19 * k + 19 = 25 + 19 * (k + 1) by omega]
        dsimp only
        cases (cA t nb A (k + 1)).1
        · rw [if_pos (show zb false = 0 from rfl), if_neg (by decide)]
          rfl
        · rw [if_neg (show ¬ zb true = 0 by decide), if_pos rfl]
          rfl
    cases hu : (cA t nb A (k + 1)).1
    · rw [hu, if_neg (by decide)] at hstep
      have hfd : finA t nb A (m + 1) = _ := fin_down (g := m + 1) hu (by omega)
      rw [hfd]
      generalize cA t nb A (k + 1) = B at hu hstep
      exact MEnd.downsp 0 hu _ _ hstep
    · rw [hu, if_pos rfl] at hstep
      rw [hstep]
      have hp := (hup hu).2
      generalize hB : cA t nb A (k + 1) = B at hu hp hok
      obtain ⟨up', l', wr', fa', p', γ'⟩ := B
      have hu : up' = true := hu
      subst hu
      have hp : p' = 25 + 19 * k + 19 := hp
      have hp : p' = 25 + 19 * (k + 1) := by omega
      subst hp
      exact m114 hT hn hM h64 hnb hroom u hβ hm hm2 me rc mu mpl A d (k + 1) f l' wr' fa' γ' _ r5 (by omega) (by omega) hok hB
theorem mcompact {t : Tab} (hT : TabOk t) (hn : t.1 ≤ 120) {ml : Int64} {mpa mwe mli : Nat → Int32} {mvo : Nat → Int64} (hM : MT t (nI t.1) ml mpa mwe mli mvo) {nb : Nat} (h64 : 64 ≤ nb) (hnb : nb ≤ 2048) (hroom : 25 + 19 * t.1 ≤ nb) (u : Bool) {β : Nat → Nat} (hβ : ∀ i, β i < 256) {m : Nat} (hm : numB β 0 4 = m) (hm2 : m + 1 < 2 ^ 31) (me rc mu mz : Int32) (mro mpl : Nat → Int32) (l : Option Nat) (wr fa : Int32) (γ : Nat → Nat) (hl : okL l) : MEnd nb (iuO (!u)) me rc (nI t.1) mu ml mpa mwe mli mvo mpl u β (finA t nb (true, l, wr, fa, 0, γ) (m + 1)) (fX9_compact_47 nb (nI nb) (iuO (!u)) me rc (nI t.1) mu ml mz mpa mwe mli mvo mro mpl FU (iuO u) (0 : Int32) false (MF l) wr fa (bA u γ β) (bB u γ β)) := by
  have h47 := m47 hnb u β (iuO (!u)) me rc (nI t.1) mu ml mz mpa mwe mli mvo mro mpl nb 0 FU l wr fa γ (by omega) (by show nb < 4096; omega) hl _ rfl
  have hok := okL_wbs (zl nb) (true, l, wr, fa, 0, γ) hl
  have hcA0 := cA_0 t nb (true, l, wr, fa, 0, γ)
  generalize hZ : wbs (zl nb) (true, l, wr, fa, 0, γ) = Z at h47 hok hcA0
  cases hu : Z.1
  · have e : cA t nb (true, l, wr, fa, 0, γ) 0 = sp Z 9 := hcA0.trans (wbs_down _ _ hu)
    have hfd : finA t nb (true, l, wr, fa, 0, γ) (m + 1) = _ := fin_down (k := 0) (g := m + 1) (by rw [e]; exact hu) (by omega)
    rw [e] at hfd
    rw [hfd]
    exact MEnd.down hu mz mro (h47.2 hu)
  · obtain ⟨f', h47⟩ := h47.1 hu
    have h47 : fX9_compact_47 nb (nI nb) (iuO (!u)) me rc (nI t.1) mu ml mz mpa mwe mli mvo mro mpl FU (iuO u) (0 : Int32) false (MF l) wr fa (bA u γ β) (bB u γ β) = _ := h47
    rw [h47]
    obtain ⟨up', l', wr', fa', p', γ'⟩ := Z
    have hu : up' = true := hu
    subst hu
    have hcA0 : cA t nb (true, l, wr, fa, 0, γ) 0 = wbs (enc 7 0 0 t.2.2.2.2) (true, l', wr', fa', 9, γ') := hcA0
    obtain ⟨z1, r1, r2, a1, a2, hrow⟩ := row7 mro t.2.2.2.2
    obtain ⟨r3, a3, hrow3⟩ := enc_row 7 0 0 t.2.2.2.2 hrow
    have hw : fX9_writeRow nb false (MF l') wr' fa' (nI (enc 7 0 0 t.2.2.2.2).length) (bA u γ' β) (bB u γ' β) r3 (iuO u) (9 : Int32) = _ := mrow_ok hnb (enc 7 0 0 t.2.2.2.2) (by rw [enc_len, show lenN 7 = 16 from rfl]; omega) hrow3 u γ' β l' wr' fa' 9 (by rw [enc_len, show lenN 7 = 16 from rfl]; omega) hok
    have hok2 := okL_wbs (enc 7 0 0 t.2.2.2.2) (true, l', wr', fa', 9, γ') hok
    have hup := wbs_up_pos (enc 7 0 0 t.2.2.2.2) (true, l', wr', fa', 9, γ')
    rw [enc_len, show lenN 7 = 16 from rfl] at hw hup a3
    rw [← hcA0] at hw hok2 hup
    have hml : ml = t.2.2.2.2 := hM.2.1
    rw [fX9_compact_47, if_pos (nI_le (by omega) (by omega)), a1, Option.bind_some]
    dsimp only
    rw [hml, a2, Option.bind_some]
    dsimp only
    rw [a3, Option.bind_some]
    dsimp only
    rw [hw, Option.bind_some]
    dsimp only
    cases hu : (cA t nb (true, l, wr, fa, 0, γ) 0).1
    · rw [if_pos (show zb false = 0 from rfl)]
      have hfd : finA t nb (true, l, wr, fa, 0, γ) (m + 1) = _ := fin_down (k := 0) (g := m + 1) hu (by omega)
      rw [hfd]
      generalize cA t nb (true, l, wr, fa, 0, γ) 0 = B at hu
      exact MEnd.downsp 0 hu _ _ rfl
    · rw [if_neg (show ¬ zb true = 0 by decide)]
      have hp := (hup hu).2
      generalize hB : cA t nb (true, l, wr, fa, 0, γ) 0 = B at hu hp hok2
      obtain ⟨up2, l2, wr2, fa2, p2, γ2⟩ := B
      have hu : up2 = true := hu
      subst hu
      have hp : p2 = 9 + 16 := hp
      subst hp
      rw [← hml]
      exact m114 hT hn hM h64 hnb hroom u hβ hm hm2 me rc mu mpl _ t.1 0 FU l2 wr2 fa2 γ2 _ r3 (by omega) (by show t.1 < 4096; omega) hok2 hB
