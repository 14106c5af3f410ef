/-! 55.act: the invariant, and an act on both sides -/
def InvU (nb : Nat) (v : Bool) (β : Nat → Nat) (rs : List Rec) (en sa : Int32) (lo : Int64) (pa we : Nat → Int32) (vo : Nat → Int64) (qn : Int32) (qs : Nat → Int32) (ql : Nat → Int64) (qt qw : Nat → Int32) (qv : Nat → Int64) (iu me us ms mu : Int32) (ml : Int64) (mpa mwe mli : Nat → Int32) (mvo : Nat → Int64) : Prop :=
  iu = iuO v ∧ us = iuO v ∧ en = nI (endR rs) ∧ me = nI (endR rs) ∧ Zt β (endR rs) nb ∧ CTb rs pa we vo sa lo qs ql qt qw qv qn ∧ MT (run (svs rs)) ms ml mpa mwe mli mvo ∧ mu = nI (uc (svs rs))
def Inv (nb g : Nat) (en : Int32) (up cw : Bool) (bl wr fa : Int32) (b1 b2 : Nat → Int32) (sa : Int32) (lo : Int64) (pa we : Nat → Int32) (vo : Nat → Int64) (qn : Int32) (qs : Nat → Int32) (ql : Nat → Int64) (qt qw : Nat → Int32) (qv : Nat → Int64) (iu me : Int32) (dn : Bool) (lf mw mf ms mu : Int32) (ml : Int64) (c1 c2 mpa mwe mli : Nat → Int32) (mvo : Nat → Int64) (us : Int32) : Prop :=
  c1 = b1 ∧ c2 = b2 ∧ mw = wr ∧ mf = fa ∧ dn = !up ∧ (∃ n, n ≤ 120 ∧ sa = nI n) ∧ (∃ l, LF cw bl l ∧ okL l ∧ lf = MF l ∧ (up = false → l = none)) ∧
  ∃ (v : Bool) (β γ : Nat → Nat) (rs : List Rec), (∀ i, γ i < 256) ∧ b1 = bA v β γ ∧ b2 = bB v β γ ∧ Good nb g γ β rs ∧ (up = true → InvU nb v β rs en sa lo pa we vo qn qs ql qt qw qv iu me us ms mu ml mpa mwe mli mvo)
theorem okL_wbs : ∀ (L : List Nat) (A : Aw), okL A.2.1 → okL (wbs L A).2.1
  | [], _, h => h
  | x :: L, A, h => okL_wbs L (wb A x) (okL_wb A x h)
theorem append_ok {nb : Nat} (hnb : nb ≤ 2048) (k1 k2 : Nat) (k s w : Nat) (x : Int64) (hk1 : 1 ≤ k) (hk7 : k ≤ 7) (hs : s < 2 ^ 31) (hw : w < 2 ^ 31) (v : Bool) (β γ : Nat → Nat) (l : Option Nat) (wr fa : Int32) (e : Nat) (he : e + lenN k ≤ nb) (cw : Bool) (bl : Int32) (hC : LF cw bl l) :
    ∃ cw' bl' pb' c', fX3_append k1 k2 true cw bl wr fa nb (bA v β γ) (bB v β γ) (iuO v) (nI e) (nI k) (nI s) (nI w) x = some ((wbs (enc k s w x) (true, l, wr, fa, e, β)).1, (wbs (enc k s w x) (true, l, wr, fa, e, β)).1, cw', bl', (wbs (enc k s w x) (true, l, wr, fa, e, β)).2.2.1, (wbs (enc k s w x) (true, l, wr, fa, e, β)).2.2.2.1, pb', nI (wbs (enc k s w x) (true, l, wr, fa, e, β)).2.2.2.2.1, c', bA v (wbs (enc k s w x) (true, l, wr, fa, e, β)).2.2.2.2.2 γ, bB v (wbs (enc k s w x) (true, l, wr, fa, e, β)).2.2.2.2.2 γ, if (wbs (enc k s w x) (true, l, wr, fa, e, β)).1 = true then nI (wbs (enc k s w x) (true, l, wr, fa, e, β)).2.2.2.2.1 else nI e) ∧ Cst (wbs (enc k s w x) (true, l, wr, fa, e, β)) cw' bl' := by
  obtain ⟨cw', bl', c', ho, hc⟩ := writeRecord_ok (nb := nb) (by omega) k s w x hk1 hk7 hs hw (true, l, wr, fa, e, β) he cw bl ⟨hC, fun h => by cases h⟩
  have ho : fX5_writeRecord true cw bl wr fa (nI e) nb (sbk β) (nI k) (nI s) (nI w) x = _ := ho
  generalize wbs (enc k s w x) (true, l, wr, fa, e, β) = W at ho hc ⊢
  unfold fX3_append
  cases v
  · refine ⟨cw', bl', k1, c', ?_, hc⟩
    rw [if_pos (show iuO false = 0 from rfl)]
    show ((fX5_writeRecord true cw bl wr fa (nI e) nb (sbk β) (nI k) (nI s) (nI w) x).bind _) = _
    rw [ho, Option.bind_some]
    dsimp only
    cases hW : W.1
    · rfl
    · rfl
  · refine ⟨cw', bl', k2, c', ?_, hc⟩
    rw [if_neg (show ¬ iuO true = 0 by decide)]
    show ((fX5_writeRecord true cw bl wr fa (nI e) nb (sbk β) (nI k) (nI s) (nI w) x).bind _) = _
    rw [ho, Option.bind_some]
    dsimp only
    cases hW : W.1
    · rfl
    · rfl
theorem mrow_ok {nb : Nat} (hnb : nb ≤ 2048) {mro : Nat → Int32} (L : List Nat) (hL : L.length ≤ 32) (hr : RowIs mro 0 L) (v : Bool) (β γ : Nat → Nat) (l : Option Nat) (wr fa : Int32) (a : Nat) (ha : a + L.length ≤ nb) (hl : okL l) :
    fX9_writeRow nb false (MF l) wr fa (nI L.length) (bA v β γ) (bB v β γ) mro (iuO v) (nI a) = some ((wbs L (true, l, wr, fa, a, β)).1, !(wbs L (true, l, wr, fa, a, β)).1, MF (wbs L (true, l, wr, fa, a, β)).2.1, (wbs L (true, l, wr, fa, a, β)).2.2.1, (wbs L (true, l, wr, fa, a, β)).2.2.2.1, bA v (wbs L (true, l, wr, fa, a, β)).2.2.2.2.2 γ, bB v (wbs L (true, l, wr, fa, a, β)).2.2.2.2.2 γ) := by
  unfold fX9_writeRow
  cases v
  · exact wrow1 (nb := nb) (by omega) (r := mro) (at_ := a) (Z := L.length) hL ha (sbk γ) L 0 FU l wr fa β hl hr (by omega) (by show L.length < 4096; omega)
  · exact wrow2 (nb := nb) (by omega) (r := mro) (at_ := a) (Z := L.length) hL ha (sbk γ) L 0 FU l wr fa β hl hr (by omega) (by show L.length < 4096; omega)
abbrev CoTup : Type := Int32 × Bool × Bool × Int32 × Int32 × Int32 × Nat × Int32 × Int32 × (Nat → Int32) × (Nat → Int32) × Int32 × (Nat → Int32) × (Nat → Int32) × (Nat → Int64) × Int32 × Int64 × (Nat → Int32) × (Nat → Int64) × (Nat → Int32) × (Nat → Int32) × (Nat → Int64) × Int32
abbrev AcTup : Type := Bool × Int32 × Int32 × Bool × Int32 × Int32 × Int32 × Int32 × Int32 × Int64 × Int32 × (Nat → Int32) × (Nat → Int32) × (Nat → Int32) × (Nat → Int32) × (Nat → Int32) × (Nat → Int64) × (Nat → Int32) × (Nat → Int32)
def ActRes (nb g : Nat) (iu us : Int32) (o : Option CoTup) (q : Option AcTup) : Prop :=
  ∃ ans up cw bl wr fa pb pos crc b1 b2 en pa we vo sa lo qs ql qt qw qv qn, o = some (ans, up, cw, bl, wr, fa, pb, pos, crc, b1, b2, en, pa, we, vo, sa, lo, qs, ql, qt, qw, qv, qn) ∧
  ∃ ok me rc dn lf mw mf ms mu ml mz c1 c2 mpa mwe mli mvo mro mpl, q = some (ok, me, rc, dn, lf, mw, mf, ms, mu, ml, mz, c1, c2, mpa, mwe, mli, mvo, mro, mpl) ∧
  ((ans = 0 ∧ ok = true ∧ sa = ms ∧ qn = mu) ∨ (ans = -1 ∧ ok = false)) ∧ Inv nb g en up cw bl wr fa b1 b2 sa lo pa we vo qn qs ql qt qw qv iu me dn lf mw mf ms mu ml c1 c2 mpa mwe mli mvo us
theorem reads_v {β γ : Nat → Nat} (hβ : ∀ i, β i < 256) {nb : Nat} (h64 : 64 ≤ nb) (hnb : nb ≤ 2048) (v : Bool) (mpa mwe mli : Nat → Int32) (mvo : Nat → Int64) (mpl : Nat → Int32) {rs : List Rec} (hS : Seg β rs) (hV : Val rs) (he : endR rs ≤ nb) (h0 : wholeN β nb (endR rs) = 0) : ∃ ms ml mpa' mwe' mli' mvo' mpl', (match v with | false => fX9_reads_1 nb (nI nb) (iuO v) (bA v β γ) (bB v β γ) mpa mwe mli mvo mpl | true => fX9_reads_2 nb (nI nb) (iuO v) (bA v β γ) (bB v β γ) mpa mwe mli mvo mpl) = some (nI (endR rs), nI rs.length, ms, nI (uc (svs rs)), ml, mpa', mwe', mli', mvo', mpl') ∧ MT (run (svs rs)) ms ml mpa' mwe' mli' mvo' := by
  cases v
  · exact reads_1 hβ h64 hnb (sbk γ) mpa mwe mli mvo mpl hS hV he h0
  · exact reads_2 hβ h64 hnb (sbk γ) mpa mwe mli mvo mpl hS hV he h0
theorem body_len32 (k s w : Nat) (x : Int64) : (body k s w x).length + 5 ≤ 32 := by
  have h := body_len k s w x
  have : lenN k ≤ 19 := by unfold lenN; split <;> split <;> split <;> omega
  omega
theorem small_body (k s w : Nat) (x : Int64) : Small (body k s w x) := fun y hy => small_enc k s w x y (List.mem_append.mpr (.inl hy))
theorem act_ok {nb g : Nat} (h64 : 64 ≤ nb) (hnb : nb ≤ 2048) (k1 k2 : Nat) {v : Bool} {β γ : Nat → Nat} {rs : List Rec} (hγ : ∀ i, γ i < 256) (hG : Good nb g γ β rs) (hz : Zt β (endR rs) nb) {pa we vo sa lo qs ql qt qw qv qn} (hC : CTb rs pa we vo sa lo qs ql qt qw qv qn) {ms ml mpa mwe mli mvo} (hM : MT (run (svs rs)) ms ml mpa mwe mli mvo) (r : Rec) (hok : okR (run (svs rs)) (uc (svs rs)) r) (he : endR rs + lenN r.1 ≤ nb) {cw : Bool} {bl : Int32} {l : Option Nat} (hLF : LF cw bl l) (hl : okL l) (wr fa : Int32) (pb : Nat) (pos crc rc mu : Int32) {mro : Nat → Int32} (hrow : RowIs mro 0 (body r.1 r.2.1 r.2.2.1 r.2.2.2)) (mpl : Nat → Int32) :
    ActRes nb g (iuO v) (iuO v) (fX8_carryOut k1 k2 true cw bl wr fa pb pos crc nb (bA v β γ) (bB v β γ) (iuO v) (nI (endR rs)) (nI r.1) (nI r.2.1) (nI r.2.2.1) r.2.2.2 pa we vo sa lo qs ql qt qw qv qn 0) (fX9_acts nb (nI nb) (iuO v) (nI (endR rs)) rc false (MF l) wr fa ms mu ml (nI (body r.1 r.2.1 r.2.2.1 r.2.2.2).length) (bA v β γ) (bB v β γ) mpa mwe mli mvo mro mpl) := by
  have hWs := val_wf rs hG.2.2.2.2.1
  have hn := run_le _ hWs
  have hfit := okR_fit hok hn
  obtain ⟨mro', hck, hrow'⟩ := checked_ok (body_len32 r.1 r.2.1 r.2.2.1 r.2.2.2) (small_body _ _ _ _) hrow
  have hrow' : RowIs mro' 0 (enc r.1 r.2.1 r.2.2.1 r.2.2.2) := hrow'
  have hck : fX9_checked (nI (body r.1 r.2.1 r.2.2.1 r.2.2.2).length) mro = some (nI (enc r.1 r.2.1 r.2.2.1 r.2.2.2).length, mro') := hck
  have hel := enc_len r.1 r.2.1 r.2.2.1 r.2.2.2
  have h19 := lenN_le hfit.1.1 hfit.1.2
  have hwr := mrow_ok hnb (enc r.1 r.2.1 r.2.2.1 r.2.2.2) (by omega) hrow' v β γ l wr fa (endR rs) (by omega) hl
  obtain ⟨cw', bl', pb', c', hap, hCst⟩ := append_ok hnb k1 k2 r.1 r.2.1 r.2.2.1 r.2.2.2 hfit.1.1 hfit.1.2 (by have := hfit.2.1; omega) (by have := hfit.2.2.1; omega) v β γ l wr fa (endR rs) he cw bl hLF
  obtain ⟨aw1, rs', aw2⟩ := after_write hG hz hok he l wr fa
  have hokL := okL_wbs (enc r.1 r.2.1 r.2.2.1 r.2.2.2) (true, l, wr, fa, endR rs, β) hl
  generalize wbs (enc r.1 r.2.1 r.2.2.1 r.2.2.2) (true, l, wr, fa, endR rs, β) = W at hwr hap hCst aw1 aw2 hokL
  unfold fX8_carryOut fX9_acts
  rw [if_pos rfl, hap, Option.bind_some, hck, Option.bind_some]
  dsimp only
  rw [hwr, Option.bind_some]
  dsimp only
  obtain ⟨Wup, Wl, Wwr, Wfa, Wpos, Wβ⟩ := W
  have hsa : ∃ n, n ≤ 120 ∧ sa = nI n := ⟨_, hn, hC.1⟩
  cases Wup
  · have hwl : Wl = none := hCst.2 rfl
    refine ⟨_, _, _, _, _, _, _, _, _, _, _, _, _, _, _, _, _, _, _, _, _, _, _, rfl, _, _, _, _, _, _, _, _, _, _, _, _, _, _, _, _, _, _, _, rfl, .inr ⟨rfl, rfl⟩, ?_⟩
    exact ⟨rfl, rfl, rfl, rfl, rfl, hsa, ⟨Wl, hCst.1, hokL, rfl, fun _ => hwl⟩, v, Wβ, γ, rs', hγ, rfl, rfl, aw2, fun h => by cases h⟩
  · obtain ⟨hpos, hG', hz'⟩ := aw1 rfl
    have hpos : Wpos = endR (r :: rs) := hpos
    subst hpos
    have hl' := endR_len rs
    have hsl := svs_len rs
    have hul := uc_le (svs rs)
    have hen := hG.2.2.2.2.2.1
    obtain ⟨pa', we', vo', sa', lo', qs', ql', qt', qw', qv', qn', hca, hC'⟩ := capply hC hG.2.2.2.2.1 (by omega) hok
    obtain ⟨ms', ml', mpa', mwe', mli', mvo', mpl', hrd, hM'⟩ := reads_v (γ := γ) hG'.1 h64 hnb v mpa mwe mli mvo mpl hG'.2.2.2.1 hG'.2.2.2.2.1 hG'.2.2.2.2.2.1 hG'.2.2.2.2.2.2
    rw [if_neg (show ¬ zb true = 0 by decide), hca, Option.bind_some, if_neg (show ¬ zb true = 0 by decide)]
    dsimp only
    refine ⟨_, _, _, _, _, _, _, _, _, _, _, _, _, _, _, _, _, _, _, _, _, _, _, rfl, ?_⟩
    have hsa' : ∃ n, n ≤ 120 ∧ sa' = nI n := ⟨_, run_le _ (val_wf (r :: rs) hG'.2.2.2.2.1), hC'.1⟩
    have hU : InvU nb v Wβ (r :: rs) (nI (endR (r :: rs))) sa' lo' pa' we' vo' qn' qs' ql' qt' qw' qv' (iuO v) (nI (endR (r :: rs))) (iuO v) ms' (nI (uc (svs (r :: rs)))) ml' mpa' mwe' mli' mvo' := ⟨rfl, rfl, rfl, rfl, hz', hC', hM', rfl⟩
    cases v
    · rw [if_pos (show iuO false = 0 from rfl)]
      have hrd : fX9_reads_1 nb (nI nb) (iuO false) (bA false Wβ γ) (bB false Wβ γ) mpa mwe mli mvo mpl = _ := hrd
      rw [hrd, Option.bind_some]
      dsimp only
      refine ⟨_, _, _, _, _, _, _, _, _, _, _, _, _, _, _, _, _, _, _, rfl, .inl ⟨rfl, rfl, hC'.1.trans hM'.1.symm, hC'.2.2.1⟩, ?_⟩
      exact ⟨rfl, rfl, rfl, rfl, rfl, hsa', ⟨Wl, hCst.1, hokL, rfl, fun h => by cases h⟩, false, Wβ, γ, r :: rs, hγ, rfl, rfl, hG', fun _ => hU⟩
    · rw [if_neg (show ¬ iuO true = 0 by decide), if_pos (show iuO true = 1 from rfl)]
      have hrd : fX9_reads_2 nb (nI nb) (iuO true) (bA true Wβ γ) (bB true Wβ γ) mpa mwe mli mvo mpl = _ := hrd
      rw [hrd, Option.bind_some]
      dsimp only
      refine ⟨_, _, _, _, _, _, _, _, _, _, _, _, _, _, _, _, _, _, _, rfl, .inl ⟨rfl, rfl, hC'.1.trans hM'.1.symm, hC'.2.2.1⟩, ?_⟩
      exact ⟨rfl, rfl, rfl, rfl, rfl, hsa', ⟨Wl, hCst.1, hokL, rfl, fun h => by cases h⟩, true, Wβ, γ, r :: rs, hγ, rfl, rfl, hG', fun _ => hU⟩
