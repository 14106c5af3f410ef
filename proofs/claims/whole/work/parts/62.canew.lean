/-! 62.canew: the class writes the other bank -/
theorem wbs_up_pos : ∀ (L : List Nat) (A : Aw), (wbs L A).1 = true → A.1 = true ∧ (wbs L A).2.2.2.2.1 = A.2.2.2.2.1 + L.length
  | [], A, h => ⟨h, rfl⟩
  | x :: L, A, h => by
    have h : (wbs L (wb A x)).1 = true := h
    obtain ⟨h1, h2⟩ := wbs_up_pos L (wb A x) h
    obtain ⟨h3, h4⟩ := wb_up_pos h1
    refine ⟨h3, ?_⟩
    show (wbs L (wb A x)).2.2.2.2.1 = _
    rw [h2, h4, List.length_cons]
    omega
theorem cA_0 (t : Tab) (nb : Nat) (A : Aw) : cA t nb A 0 = wbs (enc 7 0 0 t.2.2.2.2) (sp (wbs (zl nb) A) 9) := rfl
theorem cA_s (t : Tab) (nb : Nat) (A : Aw) (k : Nat) : cA t nb A (k + 1) = wbs (enc 6 (keptS t (k + 1)) (keptW t (k + 1)) (t.2.2.2.1 (k + 1))) (cA t nb A k) := rfl
theorem finA_d (t : Tab) (nb : Nat) (A : Aw) (g : Nat) : finA t nb A g = wbs (headL g) (sp (cA t nb A t.1) 0) := rfl
theorem cA_pos (t : Tab) (nb : Nat) (A : Aw) : ∀ k, (cA t nb A k).2.2.2.2.1 ≤ 25 + 19 * k
  | 0 => by
    rw [cA_0]
    have h := wbs_pos (enc 7 0 0 t.2.2.2.2) (sp (wbs (zl nb) A) 9)
    rw [enc_len] at h
    refine Nat.le_trans h ?_
    show 9 + 16 ≤ 25
    omega
  | k + 1 => by
    have h := wbs_pos (enc 6 (keptS t (k + 1)) (keptW t (k + 1)) (t.2.2.2.1 (k + 1))) (cA t nb A k)
    have ih := cA_pos t nb A k
    rw [enc_len, show lenN 6 = 19 from rfl, ← cA_s] at h
    refine Nat.le_trans h ?_
    generalize (cA t nb A k).2.2.2.2.1 = y at ih
    omega
theorem cA_down {t : Tab} {nb : Nat} {A : Aw} {k : Nat} (h : (cA t nb A k).1 = false) : ∀ d, cA t nb A (k + d) = cA t nb A k
  | 0 => rfl
  | d + 1 => by
    rw [show k + (d + 1) = (k + d) + 1 from rfl, cA_s, cA_down h d]
    exact wbs_down _ _ h
theorem fin_down {t : Tab} {nb : Nat} {A : Aw} {k g : Nat} (h : (cA t nb A k).1 = false) (hk : k ≤ t.1) : finA t nb A g = sp (cA t nb A k) 0 := by
  have e := cA_down h (t.1 - k)
  rw [show k + (t.1 - k) = t.1 by omega] at e
  rw [finA_d, e]
  exact wbs_down _ _ h
theorem wz {nb : Nat} (hnb : nb ≤ 2048) : ∀ (d i f : Nat) (A : Aw) (cw : Bool) (bl : Int32), i + d = nb → d < f → A.2.2.2.2.1 + d ≤ nb → Cst A cw bl → ∃ (cw' : Bool) (bl' : Int32), fX5_writeZeros_2 nb (nI nb) f (nI i) (nI A.2.2.2.2.1) A.1 cw bl A.2.2.1 A.2.2.2.1 (sbk A.2.2.2.2.2) = some ((wbs (zl d) A).1, cw', bl', (wbs (zl d) A).2.2.1, (wbs (zl d) A).2.2.2.1, nI (wbs (zl d) A).2.2.2.2.1, sbk (wbs (zl d) A).2.2.2.2.2) ∧ Cst (wbs (zl d) A) cw' bl'
  | 0, i, f + 1, A, cw, bl, h, _, _, hC => by
    unfold fX5_writeZeros_2
    rw [if_pos (nI_le (by omega) (by omega))]
    exact ⟨cw, bl, rfl, hC⟩
  | d + 1, i, f + 1, A, cw, bl, h, hf, hp, hC => by
    unfold fX5_writeZeros_2
    obtain ⟨cw1, bl1, h1, hC1⟩ := writeByte_ok (nb := nb) (by omega) A (0 : Int32) (by omega) cw bl hC
    have e0 : byteI (0 : Int32) 0 = 0 := by decide
    rw [e0] at h1 hC1
    rw [if_neg (nI_ge (by omega) (by omega)), h1, Option.bind_some, nI_1]
    exact wz hnb d (i + 1) f (wb A 0) cw1 bl1 (by omega) (by omega) (by have := (wb_pos A 0).1; omega) hC1
theorem writeHead_ok {nb : Nat} (hnb : nb < 2 ^ 31) {g : Nat} (hg : g < 2 ^ 31) (A : Aw) (cw : Bool) (bl : Int32) (hp : A.2.2.2.2.1 + 9 ≤ nb) (hC : Cst A cw bl) : ∃ (cw' : Bool) (bl' c' : Int32), fX5_writeHead A.1 cw bl A.2.2.1 A.2.2.2.1 (nI A.2.2.2.2.1) nb (sbk A.2.2.2.2.2) (nI g) = some ((wbs (headL g) A).1, cw', bl', (wbs (headL g) A).2.2.1, (wbs (headL g) A).2.2.2.1, nI (wbs (headL g) A).2.2.2.2.1, c', sbk (wbs (headL g) A).2.2.2.2.2) ∧ Cst (wbs (headL g) A) cw' bl' := by
  obtain ⟨cw1, bl1, h1, hC1, hp1⟩ := wn4 hnb (lN g) A cw bl (-1) (by omega) hC
  obtain ⟨cw2, bl2, c2, h2, hC2⟩ := tail_ok hnb (wbs (nbs (lN g) 4) A) cw1 bl1 ((nbs (lN g) 4).foldl cstep (-1)) (by omega) hC1
  unfold fX5_writeHead headL
  rw [nI_l hg, h1, Option.bind_some]
  dsimp only
  rw [h2, wbs_app]
  exact ⟨cw2, bl2, c2, rfl, hC2⟩

theorem cgen_1 {β : Nat → Nat} (hβ : ∀ i, β i < 256) {nb : Nat} (h64 : 64 ≤ nb) (hnb : nb ≤ 2048) (g1 : Nat → Int32) : fX3_generation nb g1 (sbk β) (1 : Int32) = some (nI (numB β 0 4)) := by
  unfold fX3_generation
  rw [if_neg (show ¬ (1 : Int32) = 0 by decide), gen_class hβ h64 hnb, Option.bind_some, lN_i]
theorem c64_1 {t : Tab} (hT : TabOk t) (hn : t.1 ≤ 120) {pa we vo} (hTA : TA pa we vo t) {nb : Nat} (h64 : 64 ≤ nb) (hnb : nb ≤ 2048) (hroom : 25 + 19 * t.1 ≤ nb) {β : Nat → Nat} (hβ : ∀ i, β i < 256) {m : Nat} (hm : numB β 0 4 = m) (hm2 : m + 1 < 2 ^ 31) (kk : Nat) (en : Int32) (A : Aw) : ∀ (d k f : Nat) (cw : Bool) (bl crc ek es ew : Int32) (ev : Int64), k + d = t.1 → d < f → Cst (cA t nb A k) cw bl → ∃ cw' bl' pos' crc' ek' es' ew' ev', fX3_writeAnew_1_64 kk nb (sbk β) (1 : Int32) en pa we vo (nI t.1) f (nI (k + 1)) (cA t nb A k).1 cw bl (cA t nb A k).2.2.1 (cA t nb A k).2.2.2.1 (sbk (cA t nb A k).2.2.2.2.2) (nI (cA t nb A k).2.2.2.2.1) crc ek es ew ev = some ((finA t nb A (m + 1)).1, (finA t nb A (m + 1)).1, cw', bl', (finA t nb A (m + 1)).2.2.1, (finA t nb A (m + 1)).2.2.2.1, kk, pos', crc', sbk (finA t nb A (m + 1)).2.2.2.2.2, (if (finA t nb A (m + 1)).1 = true then (0 : Int32) else (1 : Int32)), (if (finA t nb A (m + 1)).1 = true then nI (cA t nb A t.1).2.2.2.2.1 else en), ek', es', ew', ev') ∧ Cst (finA t nb A (m + 1)) cw' bl'
  | 0, k, f + 1, cw, bl, crc, ek, es, ew, ev, hk, _, hC => by
    have hk : k = t.1 := by omega
    subst hk
    unfold fX3_writeAnew_1_64
    obtain ⟨cw1, bl1, c1, h1, hC1⟩ := writeHead_ok (nb := nb) (by omega) hm2 (sp (cA t nb A t.1) 0) cw bl (show 0 + 9 ≤ nb by omega) hC
    rw [← finA_d] at h1 hC1
    have h1 : fX5_writeHead (cA t nb A t.1).1 cw bl (cA t nb A t.1).2.2.1 (cA t nb A t.1).2.2.2.1 (0 : Int32) nb (sbk (cA t nb A t.1).2.2.2.2.2) (nI (m + 1)) = some ((finA t nb A (m + 1)).1, cw1, bl1, (finA t nb A (m + 1)).2.2.1, (finA t nb A (m + 1)).2.2.2.1, nI (finA t nb A (m + 1)).2.2.2.2.1, c1, sbk (finA t nb A (m + 1)).2.2.2.2.2) := h1
    rw [if_pos (nI_lt (by omega) (by omega)), cgen_1 hβ h64 hnb, Option.bind_some, hm, nI_1, h1, Option.bind_some]
    dsimp only
    cases hu : (finA t nb A (m + 1)).1
    · rw [if_pos (show zb false = 0 from rfl)]
      exact ⟨cw1, bl1, _, _, _, _, _, _, rfl, hC1⟩
    · rw [if_neg (show ¬ zb true = 0 by decide)]
      exact ⟨cw1, bl1, _, _, _, _, _, _, rfl, hC1⟩
  | d + 1, k, f + 1, cw, bl, crc, ek, es, ew, ev, hk, hf, hC => by
    unfold fX3_writeAnew_1_64
    obtain ⟨hks1, hks2⟩ := kept_s hT hn (k := k + 1) (by omega) (by omega)
    obtain ⟨hkw1, hkw2, hkw3, hkw4⟩ := kept_w hT (k := k + 1) (by omega) (by omega)
    obtain ⟨ta1, ta2, ta3⟩ := hTA (k + 1) (by omega) (by omega)
    have hpos := cA_pos t nb A k
    obtain ⟨cw1, bl1, c1, h1, hC1⟩ := writeRecord_ok (nb := nb) (by omega) 6 (keptS t (k + 1)) (keptW t (k + 1)) (t.2.2.2.1 (k + 1)) (by omega) (by omega) (by omega) (by omega) (cA t nb A k) (by rw [show lenN 6 = 19 from rfl]; omega) cw bl hC
    rw [← cA_s, show nI 6 = (6 : Int32) from rfl] at h1
    rw [← cA_s] at hC1
    rw [if_neg (nI_nlt (by omega) (by omega)), clive hn hTA, Option.bind_some, lvB_nat t (by omega) (by omega), decide_eq_true (show k + 1 ≤ t.1 by omega), Bool.true_and, parentOf_ok hn (by omega), volumeOf_ok hn (by omega), wellOf_ok hn (by omega), if_pos (show 1 ≤ k + 1 ∧ k + 1 ≤ t.1 by omega), if_pos (show 1 ≤ k + 1 ∧ k + 1 ≤ t.1 by omega), if_pos (show 1 ≤ k + 1 ∧ k + 1 ≤ t.1 by omega), ta1, ta2, ta3, nI_1]
    by_cases hw : t.2.2.1 (k + 1) = -1
    · rw [decide_eq_false (fun h => h hw), if_pos (show zb false = 0 from rfl), Option.bind_some, Option.bind_some, ← hks2, show (255 : Int32) = nI (keptW t (k + 1)) by rw [hkw4 hw]; rfl, h1, Option.bind_some]
      exact c64_1 hT hn hTA h64 hnb hroom hβ hm hm2 kk en A d (k + 1) f cw1 bl1 c1 _ _ _ _ (by omega) (by omega) hC1
    · rw [decide_eq_true hw, if_neg (show ¬ zb true = 0 by decide), Option.bind_some, Option.bind_some, Option.bind_some, ← hks2, ← hkw3 hw, h1, Option.bind_some]
      exact c64_1 hT hn hTA h64 hnb hroom hβ hm hm2 kk en A d (k + 1) f cw1 bl1 c1 _ _ _ _ (by omega) (by omega) hC1
theorem canew_1 {t : Tab} (hT : TabOk t) (hn : t.1 ≤ 120) {pa we vo} (hTA : TA pa we vo t) {nb : Nat} (h64 : 64 ≤ nb) (hnb : nb ≤ 2048) (hroom : 25 + 19 * t.1 ≤ nb) {β : Nat → Nat} (hβ : ∀ i, β i < 256) {m : Nat} (hm : numB β 0 4 = m) (hm2 : m + 1 < 2 ^ 31) (kk : Nat) (en : Int32) (l : Option Nat) (wr fa : Int32) (γ : Nat → Nat) (cw : Bool) (bl : Int32) (hLF : LF cw bl l) : ∃ cw' bl' pos' crc' ek' es' ew' ev', fX3_writeAnew_1 kk true cw bl wr fa nb (sbk γ) (sbk β) (1 : Int32) en pa we vo (nI t.1) t.2.2.2.2 = some ((finA t nb (true, l, wr, fa, 0, γ) (m + 1)).1, (finA t nb (true, l, wr, fa, 0, γ) (m + 1)).1, cw', bl', (finA t nb (true, l, wr, fa, 0, γ) (m + 1)).2.2.1, (finA t nb (true, l, wr, fa, 0, γ) (m + 1)).2.2.2.1, kk, pos', crc', sbk (finA t nb (true, l, wr, fa, 0, γ) (m + 1)).2.2.2.2.2, (if (finA t nb (true, l, wr, fa, 0, γ) (m + 1)).1 = true then (0 : Int32) else (1 : Int32)), (if (finA t nb (true, l, wr, fa, 0, γ) (m + 1)).1 = true then nI (cA t nb (true, l, wr, fa, 0, γ) t.1).2.2.2.2.1 else en), ek', es', ew', ev') ∧ Cst (finA t nb (true, l, wr, fa, 0, γ) (m + 1)) cw' bl' := by
  obtain ⟨cw1, bl1, h1, hC1⟩ := wz hnb nb 0 FU (true, l, wr, fa, 0, γ) cw bl (by omega) (by show nb < 4096; omega) (show 0 + nb ≤ nb by omega) ⟨hLF, fun h => by cases h⟩
  have h1 : fX5_writeZeros_2 nb (nI nb) FU (0 : Int32) (0 : Int32) true cw bl wr fa (sbk γ) = _ := h1
  have hc0 := cA_0 t nb (true, l, wr, fa, 0, γ)
  generalize wbs (zl nb) (true, l, wr, fa, 0, γ) = Z at h1 hC1 hc0
  obtain ⟨cw2, bl2, c2, h2, hC2⟩ := writeRecord_ok (nb := nb) (by omega) 7 0 0 t.2.2.2.2 (by omega) (by omega) (by omega) (by omega) (sp Z 9) (show 9 + 16 ≤ nb by omega) cw1 bl1 hC1
  rw [← hc0] at h2 hC2
  have h2 : fX5_writeRecord Z.1 cw1 bl1 Z.2.2.1 Z.2.2.2.1 (9 : Int32) nb (sbk Z.2.2.2.2.2) (7 : Int32) (0 : Int32) (0 : Int32) t.2.2.2.2 = _ := h2
  unfold fX3_writeAnew_1 fX5_writeZeros
  rw [h1, Option.bind_some]
  dsimp only
  rw [h2, Option.bind_some]
  exact c64_1 hT hn hTA h64 hnb hroom hβ hm hm2 kk en _ t.1 0 FU cw2 bl2 c2 _ _ _ _ (by omega) (by show t.1 < 4096; omega) hC2

theorem cgen_2 {β : Nat → Nat} (hβ : ∀ i, β i < 256) {nb : Nat} (h64 : 64 ≤ nb) (hnb : nb ≤ 2048) (g1 : Nat → Int32) : fX3_generation nb (sbk β) g1 (0 : Int32) = some (nI (numB β 0 4)) := by
  unfold fX3_generation
  rw [if_pos rfl, gen_class hβ h64 hnb, Option.bind_some, lN_i]
theorem c64_2 {t : Tab} (hT : TabOk t) (hn : t.1 ≤ 120) {pa we vo} (hTA : TA pa we vo t) {nb : Nat} (h64 : 64 ≤ nb) (hnb : nb ≤ 2048) (hroom : 25 + 19 * t.1 ≤ nb) {β : Nat → Nat} (hβ : ∀ i, β i < 256) {m : Nat} (hm : numB β 0 4 = m) (hm2 : m + 1 < 2 ^ 31) (kk : Nat) (en : Int32) (A : Aw) : ∀ (d k f : Nat) (cw : Bool) (bl crc ek es ew : Int32) (ev : Int64), k + d = t.1 → d < f → Cst (cA t nb A k) cw bl → ∃ cw' bl' pos' crc' ek' es' ew' ev', fX3_writeAnew_2_64 kk nb (sbk β) (0 : Int32) en pa we vo (nI t.1) f (nI (k + 1)) (cA t nb A k).1 cw bl (cA t nb A k).2.2.1 (cA t nb A k).2.2.2.1 (sbk (cA t nb A k).2.2.2.2.2) (nI (cA t nb A k).2.2.2.2.1) crc ek es ew ev = some ((finA t nb A (m + 1)).1, (finA t nb A (m + 1)).1, cw', bl', (finA t nb A (m + 1)).2.2.1, (finA t nb A (m + 1)).2.2.2.1, kk, pos', crc', sbk (finA t nb A (m + 1)).2.2.2.2.2, (if (finA t nb A (m + 1)).1 = true then (1 : Int32) else (0 : Int32)), (if (finA t nb A (m + 1)).1 = true then nI (cA t nb A t.1).2.2.2.2.1 else en), ek', es', ew', ev') ∧ Cst (finA t nb A (m + 1)) cw' bl'
  | 0, k, f + 1, cw, bl, crc, ek, es, ew, ev, hk, _, hC => by
    have hk : k = t.1 := by omega
    subst hk
    unfold fX3_writeAnew_2_64
    obtain ⟨cw1, bl1, c1, h1, hC1⟩ := writeHead_ok (nb := nb) (by omega) hm2 (sp (cA t nb A t.1) 0) cw bl (show 0 + 9 ≤ nb by omega) hC
    rw [← finA_d] at h1 hC1
    have h1 : fX5_writeHead (cA t nb A t.1).1 cw bl (cA t nb A t.1).2.2.1 (cA t nb A t.1).2.2.2.1 (0 : Int32) nb (sbk (cA t nb A t.1).2.2.2.2.2) (nI (m + 1)) = some ((finA t nb A (m + 1)).1, cw1, bl1, (finA t nb A (m + 1)).2.2.1, (finA t nb A (m + 1)).2.2.2.1, nI (finA t nb A (m + 1)).2.2.2.2.1, c1, sbk (finA t nb A (m + 1)).2.2.2.2.2) := h1
    rw [if_pos (nI_lt (by omega) (by omega)), cgen_2 hβ h64 hnb, Option.bind_some, hm, nI_1, h1, Option.bind_some]
    dsimp only
    cases hu : (finA t nb A (m + 1)).1
    · rw [if_pos (show zb false = 0 from rfl)]
      exact ⟨cw1, bl1, _, _, _, _, _, _, rfl, hC1⟩
    · rw [if_neg (show ¬ zb true = 0 by decide)]
      exact ⟨cw1, bl1, _, _, _, _, _, _, rfl, hC1⟩
  | d + 1, k, f + 1, cw, bl, crc, ek, es, ew, ev, hk, hf, hC => by
    unfold fX3_writeAnew_2_64
    obtain ⟨hks1, hks2⟩ := kept_s hT hn (k := k + 1) (by omega) (by omega)
    obtain ⟨hkw1, hkw2, hkw3, hkw4⟩ := kept_w hT (k := k + 1) (by omega) (by omega)
    obtain ⟨ta1, ta2, ta3⟩ := hTA (k + 1) (by omega) (by omega)
    have hpos := cA_pos t nb A k
    obtain ⟨cw1, bl1, c1, h1, hC1⟩ := writeRecord_ok (nb := nb) (by omega) 6 (keptS t (k + 1)) (keptW t (k + 1)) (t.2.2.2.1 (k + 1)) (by omega) (by omega) (by omega) (by omega) (cA t nb A k) (by rw [show lenN 6 = 19 from rfl]; omega) cw bl hC
    rw [← cA_s, show nI 6 = (6 : Int32) from rfl] at h1
    rw [← cA_s] at hC1
    rw [if_neg (nI_nlt (by omega) (by omega)), clive hn hTA, Option.bind_some, lvB_nat t (by omega) (by omega), decide_eq_true (show k + 1 ≤ t.1 by omega), Bool.true_and, parentOf_ok hn (by omega), volumeOf_ok hn (by omega), wellOf_ok hn (by omega), if_pos (show 1 ≤ k + 1 ∧ k + 1 ≤ t.1 by omega), if_pos (show 1 ≤ k + 1 ∧ k + 1 ≤ t.1 by omega), if_pos (show 1 ≤ k + 1 ∧ k + 1 ≤ t.1 by omega), ta1, ta2, ta3, nI_1]
    by_cases hw : t.2.2.1 (k + 1) = -1
    · rw [decide_eq_false (fun h => h hw), if_pos (show zb false = 0 from rfl), Option.bind_some, Option.bind_some, ← hks2, show (255 : Int32) = nI (keptW t (k + 1)) by rw [hkw4 hw]; rfl, h1, Option.bind_some]
      exact c64_2 hT hn hTA h64 hnb hroom hβ hm hm2 kk en A d (k + 1) f cw1 bl1 c1 _ _ _ _ (by omega) (by omega) hC1
    · rw [decide_eq_true hw, if_neg (show ¬ zb true = 0 by decide), Option.bind_some, Option.bind_some, Option.bind_some, ← hks2, ← hkw3 hw, h1, Option.bind_some]
      exact c64_2 hT hn hTA h64 hnb hroom hβ hm hm2 kk en A d (k + 1) f cw1 bl1 c1 _ _ _ _ (by omega) (by omega) hC1
theorem canew_2 {t : Tab} (hT : TabOk t) (hn : t.1 ≤ 120) {pa we vo} (hTA : TA pa we vo t) {nb : Nat} (h64 : 64 ≤ nb) (hnb : nb ≤ 2048) (hroom : 25 + 19 * t.1 ≤ nb) {β : Nat → Nat} (hβ : ∀ i, β i < 256) {m : Nat} (hm : numB β 0 4 = m) (hm2 : m + 1 < 2 ^ 31) (kk : Nat) (en : Int32) (l : Option Nat) (wr fa : Int32) (γ : Nat → Nat) (cw : Bool) (bl : Int32) (hLF : LF cw bl l) : ∃ cw' bl' pos' crc' ek' es' ew' ev', fX3_writeAnew_2 kk true cw bl wr fa nb (sbk β) (sbk γ) (0 : Int32) en pa we vo (nI t.1) t.2.2.2.2 = some ((finA t nb (true, l, wr, fa, 0, γ) (m + 1)).1, (finA t nb (true, l, wr, fa, 0, γ) (m + 1)).1, cw', bl', (finA t nb (true, l, wr, fa, 0, γ) (m + 1)).2.2.1, (finA t nb (true, l, wr, fa, 0, γ) (m + 1)).2.2.2.1, kk, pos', crc', sbk (finA t nb (true, l, wr, fa, 0, γ) (m + 1)).2.2.2.2.2, (if (finA t nb (true, l, wr, fa, 0, γ) (m + 1)).1 = true then (1 : Int32) else (0 : Int32)), (if (finA t nb (true, l, wr, fa, 0, γ) (m + 1)).1 = true then nI (cA t nb (true, l, wr, fa, 0, γ) t.1).2.2.2.2.1 else en), ek', es', ew', ev') ∧ Cst (finA t nb (true, l, wr, fa, 0, γ) (m + 1)) cw' bl' := by
  obtain ⟨cw1, bl1, h1, hC1⟩ := wz hnb nb 0 FU (true, l, wr, fa, 0, γ) cw bl (by omega) (by show nb < 4096; omega) (show 0 + nb ≤ nb by omega) ⟨hLF, fun h => by cases h⟩
  have h1 : fX5_writeZeros_2 nb (nI nb) FU (0 : Int32) (0 : Int32) true cw bl wr fa (sbk γ) = _ := h1
  have hc0 := cA_0 t nb (true, l, wr, fa, 0, γ)
  generalize wbs (zl nb) (true, l, wr, fa, 0, γ) = Z at h1 hC1 hc0
  obtain ⟨cw2, bl2, c2, h2, hC2⟩ := writeRecord_ok (nb := nb) (by omega) 7 0 0 t.2.2.2.2 (by omega) (by omega) (by omega) (by omega) (sp Z 9) (show 9 + 16 ≤ nb by omega) cw1 bl1 hC1
  rw [← hc0] at h2 hC2
  have h2 : fX5_writeRecord Z.1 cw1 bl1 Z.2.2.1 Z.2.2.2.1 (9 : Int32) nb (sbk Z.2.2.2.2.2) (7 : Int32) (0 : Int32) (0 : Int32) t.2.2.2.2 = _ := h2
  unfold fX3_writeAnew_2 fX5_writeZeros
  rw [h1, Option.bind_some]
  dsimp only
  rw [h2, Option.bind_some]
  exact c64_2 hT hn hTA h64 hnb hroom hβ hm hm2 kk en _ t.1 0 FU cw2 bl2 c2 _ _ _ _ (by omega) (by show t.1 < 4096; omega) hC2
