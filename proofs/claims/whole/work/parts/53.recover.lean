/-! 53.recover: the choice of the bank, the blanking, and recover on both sides -/
def bA (u : Bool) (β γ : Nat → Nat) : Nat → Int32 := match u with | true => sbk γ | false => sbk β
def bB (u : Bool) (β γ : Nat → Nat) : Nat → Int32 := match u with | true => sbk β | false => sbk γ
def iuO (u : Bool) : Int32 := match u with | true => 1 | false => 0
/-- β is the bank that recover() takes, γ the other -/
def Sel (β γ : Nat → Nat) : Prop := closed β 0 9 = true ∧ (numB γ 0 4 < numB β 0 4 ∨ γ 8 ≠ 165)
theorem closed_8 {β : Nat → Nat} (h : closed β 0 9 = true) : β 8 = 165 := by
  unfold closed at h
  rw [Bool.and_eq_true] at h
  exact of_decide_eq_true h.2
theorem Sel.other {β γ : Nat → Nat} (h : Sel β γ) : closed γ 0 9 = false ∨ numB γ 0 4 < numB β 0 4 := by
  rcases h.2 with g | g
  · exact .inr g
  · left
    cases hc : closed γ 0 9
    · rfl
    · exact absurd (closed_8 hc) g
theorem cmp_nat {a b : Nat} (ha : a < 2 ^ 32) (hb : b < 2 ^ 32) : (lg_cmp (lN a) (lN b) ≤ 0) ↔ a ≤ b := by
  rw [lg_cmp_le, Int64.le_iff_toInt_le, lN_ti (by omega), lN_ti (by omega), if_pos (by omega), if_pos (by omega)]
  omega
theorem gen_lt {β : Nat → Nat} (hβ : ∀ i, β i < 256) : numB β 0 4 < 2 ^ 32 := numB_lt hβ 0 4
theorem choose_ok {β γ : Nat → Nat} (hβ : ∀ i, β i < 256) (hγ : ∀ i, γ i < 256) {nb : Nat} (h64 : 64 ≤ nb) (hnb : nb ≤ 2048) (u : Bool) (hS : Sel β γ) : fX3_chooseBank nb (bA u β γ) (bB u β γ) = some (iuO u, (9 : Int32)) := by
  have ho := hS.other
  have g1 := gen_lt hβ
  have g2 := gen_lt hγ
  unfold fX3_chooseBank
  cases u
  · show ((fX0_hasRightHead nb (sbk β)).bind _) = some ((0 : Int32), (9 : Int32))
    rw [head_class hβ h64 hnb, Option.bind_some]
    show ((fX0_hasRightHead nb (sbk γ)).bind _) = some ((0 : Int32), (9 : Int32))
    rw [head_class hγ h64 hnb, Option.bind_some]
    show ((fX0_number nb (sbk γ) 0 4).bind _) = some ((0 : Int32), (9 : Int32))
    rw [gen_class hγ h64 hnb, Option.bind_some]
    show ((fX0_number nb (sbk β) 0 4).bind _) = some ((0 : Int32), (9 : Int32))
    rw [gen_class hβ h64 hnb, Option.bind_some, hS.1]
    rcases ho with g | g
    · rw [g, if_pos (show zb false = 0 from rfl), if_pos (show zb false = 0 from rfl)]
      split <;> rfl
    · rw [if_pos ((cmp_nat g2 g1).mpr (by omega)), if_neg (show ¬ zb true = 0 by decide)]
      split <;> rfl
  · show ((fX0_hasRightHead nb (sbk γ)).bind _) = some ((1 : Int32), (9 : Int32))
    rw [head_class hγ h64 hnb, Option.bind_some]
    show ((fX0_hasRightHead nb (sbk β)).bind _) = some ((1 : Int32), (9 : Int32))
    rw [head_class hβ h64 hnb, Option.bind_some]
    show ((fX0_number nb (sbk β) 0 4).bind _) = some ((1 : Int32), (9 : Int32))
    rw [gen_class hβ h64 hnb, Option.bind_some]
    show ((fX0_number nb (sbk γ) 0 4).bind _) = some ((1 : Int32), (9 : Int32))
    rw [gen_class hγ h64 hnb, Option.bind_some, hS.1]
    rcases ho with g | g
    · rw [g, if_neg (show ¬ zb true = 0 by decide), if_pos (show zb false = 0 from rfl)]
      split <;> rfl
    · rw [if_neg (fun h => absurd ((cmp_nat g1 g2).mp h) (by omega)), if_neg (show ¬ zb true = 0 by decide)]
def blk (β : Nat → Nat) (a nb : Nat) : Nat → Nat := fun i => if a ≤ i ∧ i < nb then 0 else β i
theorem blk_lt {β : Nat → Nat} (hβ : ∀ i, β i < 256) (a nb : Nat) : ∀ i, blk β a nb i < 256 := fun i => by
  unfold blk
  split
  · omega
  · exact hβ i
theorem blk_upd (β : Nat → Nat) {a nb : Nat} (h : a < nb) : blk (updN β a 0) (a + 1) nb = blk β a nb := by
  funext i
  unfold blk updN
  by_cases h1 : a + 1 ≤ i ∧ i < nb
  · rw [if_pos h1, if_pos (by omega)]
  · rw [if_neg h1]
    by_cases h2 : i = a
    · rw [if_pos h2, if_pos (by omega)]
    · rw [if_neg h2, if_neg (by omega)]
theorem blk_nil (β : Nat → Nat) (nb : Nat) : blk β nb nb = β := by
  funext i
  unfold blk
  rw [if_neg (by omega)]
theorem vp_z : vp_nar .byte (0 : Int32) = sb_b 0 := by decide
theorem blank6 {nb : Nat} (hnb : nb ≤ 2048) : ∀ (d a fuel : Nat) (β : Nat → Nat), a + d = nb → d < fuel → fX0_blankFrom_6 nb fuel (nI a) (sbk β) = some (sbk (blk β a nb))
  | 0, a, fuel + 1, β, h, _ => by
    unfold fX0_blankFrom_6
    rw [if_pos (nI_le (by omega) (by omega)), show a = nb by omega, blk_nil]
  | d + 1, a, fuel + 1, β, h, hf => by
    unfold fX0_blankFrom_6
    rw [if_neg (nI_ge (by omega) (by omega)), if_pos (ib_nI (by omega) (by omega)), nI_1, nI_clamp (by omega), vp_z, sbk_upd, blank6 hnb d (a + 1) fuel _ (by omega) (by omega), blk_upd β (by omega)]
theorem blankFrom_ok {nb : Nat} (hnb : nb ≤ 2048) {a : Nat} (h0 : 0 < a) (ha : a ≤ nb) (β : Nat → Nat) : fX0_blankFrom nb (sbk β) (nI a) = some (sbk (blk β a nb)) := by
  unfold fX0_blankFrom
  rw [if_pos (show (0 : Int32) < nI a from nI_lt (a := 0) h0 (by omega))]
  exact blank6 hnb (nb - a) a FU β (by omega) (by show nb - a < 4096; omega)
theorem blankRest_ok {nb : Nat} (hnb : nb ≤ 2048) {a : Nat} (h0 : 0 < a) (ha : a ≤ nb) (u : Bool) (β γ : Nat → Nat) : fX3_blankTheRest nb (bA u β γ) (bB u β γ) (iuO u) (nI a) = some (bA u (blk β a nb) γ, bB u (blk β a nb) γ) := by
  unfold fX3_blankTheRest
  cases u
  · rw [if_pos (show iuO false = 0 from rfl)]
    show ((fX0_blankFrom nb (sbk β) (nI a)).bind _) = _
    rw [blankFrom_ok hnb h0 ha, Option.bind_some]
    rfl
  · rw [if_neg (show ¬ iuO true = 0 by decide)]
    show ((fX0_blankFrom nb (sbk β) (nI a)).bind _) = _
    rw [blankFrom_ok hnb h0 ha, Option.bind_some]
    rfl
theorem readNext_0 {β γ : Nat → Nat} (hβ : ∀ i, β i < 256) {nb : Nat} (h64 : 64 ≤ nb) (hnb : nb ≤ 2048) {a : Nat} (ha : a ≤ nb) (h0 : wholeN β nb a = 0) (u : Bool) (ek es ew : Int32) (ev : Int64) : fX3_readNext nb (bA u β γ) (bB u β γ) (iuO u) (nI a) ek es ew ev = some (false, nI a, ek, es, ew, ev) := by
  unfold fX3_readNext
  have hw := whole_class hβ h64 hnb ha
  rw [h0] at hw
  cases u
  · rw [if_pos (show iuO false = 0 from rfl)]
    show ((fX0_wholeRecordAt nb (sbk β) (nI a)).bind _) = _
    rw [hw, Option.bind_some, if_pos (show nI 0 = (0 : Int32) from rfl)]
  · rw [if_neg (show ¬ iuO true = 0 by decide)]
    show ((fX0_wholeRecordAt nb (sbk β) (nI a)).bind _) = _
    rw [hw, Option.bind_some, if_pos (show nI 0 = (0 : Int32) from rfl)]
theorem readNext_r {β γ : Nat → Nat} (hβ : ∀ i, β i < 256) {nb : Nat} (h64 : 64 ≤ nb) (hnb : nb ≤ 2048) {a : Nat} {r : Rec} (hr : recAt β a r) (hf : fitR r) (ha : a + lenN r.1 ≤ nb) (u : Bool) (ek es ew : Int32) (ev : Int64) : fX3_readNext nb (bA u β γ) (bB u β γ) (iuO u) (nI a) ek es ew ev = some (true, nI (a + lenN r.1), nI r.1, nI r.2.1, nI r.2.2.1, r.2.2.2) := by
  unfold fX3_readNext
  have h8 := lenN_le hf.1.1 hf.1.2
  have hw := whole_class hβ h64 hnb (a := a) (by omega)
  rw [rec_whole hr hf ha] at hw
  have hrd := readFrom_ok hβ hnb hr hf ha
  cases u
  · rw [if_pos (show iuO false = 0 from rfl)]
    show ((fX0_wholeRecordAt nb (sbk β) (nI a)).bind _) = _
    rw [hw, Option.bind_some, if_neg (nI_ne0 (by omega) (by omega))]
    show ((fX2_readFrom nb (sbk β) (nI a)).bind _) = _
    rw [hrd, Option.bind_some, nI_add]
  · rw [if_neg (show ¬ iuO true = 0 by decide)]
    show ((fX0_wholeRecordAt nb (sbk β) (nI a)).bind _) = _
    rw [hw, Option.bind_some, if_neg (nI_ne0 (by omega) (by omega))]
    show ((fX2_readFrom nb (sbk β) (nI a)).bind _) = _
    rw [hrd, Option.bind_some, nI_add]
abbrev CRTup : Type := Int32 × Bool × Bool × (Nat → Int32) × (Nat → Int32) × Int32 × Int32 × Int32 × Int32 × Int32 × Int64 × (Nat → Int32) × (Nat → Int32) × (Nat → Int64) × Int32 × Int64 × (Nat → Int32) × (Nat → Int64) × (Nat → Int32) × (Nat → Int32) × (Nat → Int64) × Int32
def CRStep (rs : List Rec) (u : Bool) (β γ : Nat → Nat) (v3 v4 : Bool) (o : Option CRTup) : Prop := ∃ ek es ew ev pa we vo sa lo qs ql qt qw qv qn, o = some (nI rs.length, v3, v4, bA u β γ, bB u β γ, iuO u, nI (endR rs), ek, es, ew, ev, pa, we, vo, sa, lo, qs, ql, qt, qw, qv, qn) ∧ CTb rs pa we vo sa lo qs ql qt qw qv qn
theorem cr23 {β γ : Nat → Nat} (hβ : ∀ i, β i < 256) {nb : Nat} (h64 : 64 ≤ nb) (hnb : nb ≤ 2048) (u : Bool) (v3 v4 : Bool) : ∀ (m t : List Rec) (fuel : Nat) (ek es ew : Int32) (ev : Int64) (pa we : Nat → Int32) (vo : Nat → Int64) (sa : Int32) (lo : Int64) (qs : Nat → Int32) (ql : Nat → Int64) (qt qw : Nat → Int32) (qv : Nat → Int64) (qn : Int32), Seg β (m.reverse ++ t) → Val (m.reverse ++ t) → endR (m.reverse ++ t) ≤ nb → wholeN β nb (endR (m.reverse ++ t)) = 0 → m.length < fuel → CTb t pa we vo sa lo qs ql qt qw qv qn → CRStep (m.reverse ++ t) u (blk β (endR (m.reverse ++ t)) nb) γ v3 v4 (fX8_recover_23 nb (bA u β γ) (bB u β γ) fuel (nI t.length) (iuO u) (nI (endR t)) v3 v4 sa lo qn pa we vo qs ql qt qw qv ek es ew ev)
  | [], t, fuel + 1, ek, es, ew, ev, pa, we, vo, sa, lo, qs, ql, qt, qw, qv, qn, hS, hV, he, h0, _, hC => by
    have he : endR t ≤ nb := he
    have h0 : wholeN β nb (endR t) = 0 := h0
    have hl := endR_len t
    have h9 := endR_9 t
    refine ⟨ek, es, ew, ev, pa, we, vo, sa, lo, qs, ql, qt, qw, qv, qn, ?_, hC⟩
    unfold fX8_recover_23
    rw [if_neg (show ¬ (256 : Int32) ≤ nI t.length from nI_ge (a := t.length) (b := 256) (by omega) (by omega)), readNext_0 hβ h64 hnb he h0, Option.bind_some]
    dsimp only
    rw [if_pos (show zb false = 0 from rfl), blankRest_ok hnb (by omega) he, Option.bind_some]
    rfl
  | x :: m, t, fuel + 1, ek, es, ew, ev, pa, we, vo, sa, lo, qs, ql, qt, qw, qv, qn, hS, hV, he, h0, hf, hC => by
    rw [svs_suf] at hS hV he h0 ⊢
    have hf : m.length + 1 < fuel + 1 := hf
    have hSx := Seg_suf m.reverse hS
    have hVx := Val_suf m.reverse hV
    have hex : endR t + lenN x.1 ≤ nb := Nat.le_trans (endR_suf m.reverse (x :: t)) he
    have hWt := val_wf t hVx.2
    have hfit := okR_fit hVx.1 (run_le _ hWt)
    have hl := endR_len t
    have hsl := svs_len t
    have hul := uc_le (svs t)
    obtain ⟨pa', we', vo', sa', lo', qs', ql', qt', qw', qv', qn', ho, hC'⟩ := capply hC hVx.2 (by omega) hVx.1
    unfold fX8_recover_23
    rw [if_neg (show ¬ (256 : Int32) ≤ nI t.length from nI_ge (a := t.length) (b := 256) (by omega) (by omega)), readNext_r hβ h64 hnb hSx.1 hfit hex, Option.bind_some]
    dsimp only
    rw [if_neg (show ¬ zb true = 0 by decide), ho, Option.bind_some]
    dsimp only
    rw [nI_1]
    exact cr23 hβ h64 hnb u v3 v4 m (x :: t) fuel _ _ _ _ pa' we' vo' sa' lo' qs' ql' qt' qw' qv' qn' hS hV he h0 (by omega) hC'
theorem crecover {β γ : Nat → Nat} (hβ : ∀ i, β i < 256) (hγ : ∀ i, γ i < 256) {nb : Nat} (h64 : 64 ≤ nb) (hnb : nb ≤ 2048) (u : Bool) (hSel : Sel β γ) {rs : List Rec} (hS : Seg β rs) (hV : Val rs) (he : endR rs ≤ nb) (h0 : wholeN β nb (endR rs) = 0) (ek es ew : Int32) (ev : Int64) (pa we : Nat → Int32) (vo : Nat → Int64) (qs : Nat → Int32) (ql : Nat → Int64) (qt qw : Nat → Int32) (qv : Nat → Int64) : CRStep rs u (blk β (endR rs) nb) γ true false (fX8_recover nb (bA u β γ) (bB u β γ) ek es ew ev pa we vo qs ql qt qw qv) := by
  unfold fX8_recover
  rw [choose_ok hβ hγ h64 hnb u hSel, Option.bind_some]
  have h := cr23 hβ h64 hnb (γ := γ) u true false rs.reverse [] FU ek es ew ev pa we vo (0 : Int32) (0 : Int64) qs ql qt qw qv (0 : Int32)
  rw [List.reverse_reverse, List.append_nil] at h
  have hl := endR_len rs
  exact h hS hV he h0 (by rw [List.length_reverse]; show rs.length < 4096; omega) ⟨rfl, rfl, rfl, fun k h1 h2 => absurd h2 (by show ¬ k ≤ 0; omega), trivial⟩
theorem mblank {nb : Nat} (hnb : nb ≤ 2048) (u : Bool) (γ : Nat → Nat) (v0 v3 v4 v5 v6 : Int32) (v7 : Int64) (v8 v9 v10 : Nat → Int32) (v11 : Nat → Int64) (v12 : Nat → Int32) : ∀ (d a fuel : Nat) (β : Nat → Nat), a + d = nb → d < fuel → fX9_recover_58 nb (nI nb) fuel v0 (nI a) (iuO u) v3 v4 v5 v6 v7 v8 v9 v10 v11 v12 (bA u β γ) (bB u β γ) = some (v4, iuO u, v3, v4, false, (-1 : Int32), v5, v6, v7, bA u (blk β a nb) γ, bB u (blk β a nb) γ, v8, v9, v10, v11, v12)
  | 0, a, fuel + 1, β, h, _ => by
    unfold fX9_recover_58
    rw [if_pos (nI_le (by omega) (by omega)), show a = nb by omega, blk_nil]
  | d + 1, a, fuel + 1, β, h, hf => by
    have ih := mblank hnb u γ v0 v3 v4 v5 v6 v7 v8 v9 v10 v11 v12 d (a + 1) fuel (updN β a 0) (by omega) (by omega)
    rw [blk_upd β (by omega)] at ih
    unfold fX9_recover_58
    rw [if_neg (nI_ge (by omega) (by omega)), if_pos (ib_nI (by omega) (by omega)), nI_1, nI_clamp (by omega), vp_z]
    cases u
    · rw [if_pos (show iuO false = 0 from rfl), show upd (bA false β γ) a (sb_b 0) = sbk (updN β a 0) from sbk_upd β a 0]
      exact ih
    · rw [if_neg (show ¬ iuO true = 0 by decide), if_pos (show iuO true = 1 from rfl), if_pos (ib_nI (by omega) (by omega)), show upd (bB true β γ) a (sb_b 0) = sbk (updN β a 0) from sbk_upd β a 0]
      exact ih
abbrev MRTup : Type := Int32 × Int32 × Int32 × Int32 × Bool × Int32 × Int32 × Int32 × Int64 × (Nat → Int32) × (Nat → Int32) × (Nat → Int32) × (Nat → Int32) × (Nat → Int32) × (Nat → Int64) × (Nat → Int32)
def MRStep (rs : List Rec) (u : Bool) (β γ : Nat → Nat) (o : Option MRTup) : Prop := ∃ ms ml mpa mwe mli mvo mpl, o = some (nI rs.length, iuO u, nI (endR rs), nI rs.length, false, (-1 : Int32), ms, nI (uc (svs rs)), ml, bA u β γ, bB u β γ, mpa, mwe, mli, mvo, mpl) ∧ MT (run (svs rs)) ms ml mpa mwe mli mvo
theorem right_1 {β : Nat → Nat} (hβ : ∀ i, β i < 256) {nb : Nat} (h64 : 64 ≤ nb) (hnb : nb ≤ 2048) (c2 : Nat → Int32) : fX9_isRight nb (sbk β) c2 (0 : Int32) = some (closed β 0 9) := by
  unfold fX9_isRight
  rw [if_pos rfl]
  exact right_aux hβ h64 hnb
theorem right_2 {β : Nat → Nat} (hβ : ∀ i, β i < 256) {nb : Nat} (h64 : 64 ≤ nb) (hnb : nb ≤ 2048) (c1 : Nat → Int32) : fX9_isRight nb c1 (sbk β) (1 : Int32) = some (closed β 0 9) := by
  unfold fX9_isRight
  rw [if_neg (by decide), if_pos rfl]
  exact right_aux hβ h64 hnb
theorem mgen_1 {β : Nat → Nat} (hβ : ∀ i, β i < 256) {nb : Nat} (h64 : 64 ≤ nb) (hnb : nb ≤ 2048) (c2 : Nat → Int32) : fX9_generation nb (sbk β) c2 (0 : Int32) = some (lN (numB β 0 4)) := by
  unfold fX9_generation
  rw [if_pos rfl, gen_model hβ h64 hnb, Option.bind_some]
theorem mgen_2 {β : Nat → Nat} (hβ : ∀ i, β i < 256) {nb : Nat} (h64 : 64 ≤ nb) (hnb : nb ≤ 2048) (c1 : Nat → Int32) : fX9_generation nb c1 (sbk β) (1 : Int32) = some (lN (numB β 0 4)) := by
  unfold fX9_generation
  rw [if_neg (by decide), if_pos rfl, gen_model hβ h64 hnb, Option.bind_some]
theorem mrecover {β γ : Nat → Nat} (hβ : ∀ i, β i < 256) (hγ : ∀ i, γ i < 256) {nb : Nat} (h64 : 64 ≤ nb) (hnb : nb ≤ 2048) (u : Bool) (hSel : Sel β γ) {rs : List Rec} (hS : Seg β rs) (hV : Val rs) (he : endR rs ≤ nb) (h0 : wholeN β nb (endR rs) = 0) (mpa mwe mli : Nat → Int32) (mvo : Nat → Int64) (mpl : Nat → Int32) : MRStep rs u (blk β (endR rs) nb) γ (fX9_recover nb (nI nb) (bA u β γ) (bB u β γ) mpa mwe mli mvo mpl) := by
  have ho := hSel.other
  have g1 := gen_lt hβ
  have g2 := gen_lt hγ
  have hc := hSel.1
  have h9 := endR_9 rs
  unfold fX9_recover
  cases u
  · obtain ⟨ms, ml, mpa', mwe', mli', mvo', mpl', hr, hM⟩ := reads_1 hβ h64 hnb (sbk γ) mpa mwe mli mvo mpl hS hV he h0
    have hb := mblank hnb false γ (0 : Int32) (nI (endR rs)) (nI rs.length) ms (nI (uc (svs rs))) ml mpa' mwe' mli' mvo' mpl' (nb - endR rs) (endR rs) FU β (by omega) (by show nb - endR rs < 4096; omega)
    refine ⟨ms, ml, mpa', mwe', mli', mvo', mpl', ?_, hM⟩
    show ((fX9_isRight nb (sbk β) (sbk γ) (1 : Int32)).bind _) = _
    rw [right_2 hγ h64 hnb, Option.bind_some]
    cases hcg : closed γ 0 9
    · rw [if_pos (show zb false = 0 from rfl)]
      show ((fX9_reads_1 nb (nI nb) 0 (sbk β) (sbk γ) mpa mwe mli mvo mpl).bind _) = _
      rw [hr, Option.bind_some]
      exact hb
    · rw [if_neg (show ¬ zb true = 0 by decide)]
      show ((fX9_isRight nb (sbk β) (sbk γ) (0 : Int32)).bind _) = _
      rw [right_1 hβ h64 hnb, Option.bind_some, hc, if_neg (show ¬ zb true = 0 by decide)]
      show ((fX9_generation nb (sbk β) (sbk γ) (1 : Int32)).bind _) = _
      rw [mgen_2 hγ h64 hnb, Option.bind_some]
      show ((fX9_generation nb (sbk β) (sbk γ) (0 : Int32)).bind _) = _
      rw [mgen_1 hβ h64 hnb, Option.bind_some]
      rcases ho with g | g
      · rw [hcg] at g
        cases g
      · rw [if_pos ((cmp_nat g2 g1).mpr (by omega))]
        show ((fX9_reads_1 nb (nI nb) 0 (sbk β) (sbk γ) mpa mwe mli mvo mpl).bind _) = _
        rw [hr, Option.bind_some]
        exact hb
  · obtain ⟨ms, ml, mpa', mwe', mli', mvo', mpl', hr, hM⟩ := reads_2 hβ h64 hnb (sbk γ) mpa mwe mli mvo mpl hS hV he h0
    have hb := mblank hnb true γ (1 : Int32) (nI (endR rs)) (nI rs.length) ms (nI (uc (svs rs))) ml mpa' mwe' mli' mvo' mpl' (nb - endR rs) (endR rs) FU β (by omega) (by show nb - endR rs < 4096; omega)
    refine ⟨ms, ml, mpa', mwe', mli', mvo', mpl', ?_, hM⟩
    show ((fX9_isRight nb (sbk γ) (sbk β) (1 : Int32)).bind _) = _
    rw [right_2 hβ h64 hnb, Option.bind_some, hc, if_neg (show ¬ zb true = 0 by decide)]
    show ((fX9_isRight nb (sbk γ) (sbk β) (0 : Int32)).bind _) = _
    rw [right_1 hγ h64 hnb, Option.bind_some]
    cases hcg : closed γ 0 9
    · rw [if_pos (show zb false = 0 from rfl)]
      show ((fX9_reads_2 nb (nI nb) 1 (sbk γ) (sbk β) mpa mwe mli mvo mpl).bind _) = _
      rw [hr, Option.bind_some]
      exact hb
    · rw [if_neg (show ¬ zb true = 0 by decide)]
      show ((fX9_generation nb (sbk γ) (sbk β) (1 : Int32)).bind _) = _
      rw [mgen_2 hβ h64 hnb, Option.bind_some]
      show ((fX9_generation nb (sbk γ) (sbk β) (0 : Int32)).bind _) = _
      rw [mgen_1 hγ h64 hnb, Option.bind_some]
      rcases ho with g | g
      · rw [hcg] at g
        cases g
      · rw [if_neg (fun h => absurd ((cmp_nat g1 g2).mp h) (by omega))]
        show ((fX9_reads_2 nb (nI nb) 1 (sbk γ) (sbk β) mpa mwe mli mvo mpl).bind _) = _
        rw [hr, Option.bind_some]
        exact hb
