/-! 50.mapply: the reference's table, and how it applies a record -/
theorem sb_small : ∀ c, c < 128 → sb_b c = nI c := by decide +kernel
theorem sbk_small {β : Nat → Nat} {i : Nat} (h : β i < 128) : sbk β i = nI (β i) := sb_small _ h
theorem nI_nm1 {w : Nat} (h : w < 2 ^ 31) : nI w ≠ -1 := fun e => nI_pos h (by rw [e]; decide)
theorem okR_fit {t : Tab} {u : Nat} {r : Rec} (h : okR t u r) (hn : t.1 ≤ 120) : fitR r := by
  unfold fitR
  rcases h with q | q | q | q | q | q | q
  · refine ⟨by omega, by omega, by omega, fun _ => q.2.1, fun h => ?_, fun h => ?_⟩ <;> rw [q.1] at h <;> exact absurd h (by decide)
  · refine ⟨by omega, by omega, by omega, fun h => ?_, fun h => ?_, fun h => ?_⟩ <;> rw [q.1] at h <;> exact absurd h (by decide)
  · refine ⟨by omega, by omega, by omega, fun h => ?_, fun h => ?_, fun _ => q.2.2.2.1⟩ <;> rw [q.1] at h <;> exact absurd h (by decide)
  · refine ⟨by omega, by omega, by omega, fun h => ?_, fun _ => q.2.2.1, fun _ => q.2.2.2⟩ <;> rw [q.1] at h <;> exact absurd h (by decide)
  · exact ⟨by omega, by omega, by omega, fun _ => q.2.2.1, fun _ => q.2.2.2.1, fun _ => q.2.2.2.2⟩
  · refine ⟨by omega, by omega, by omega, fun h => ?_, fun h => ?_, fun h => ?_⟩ <;> rw [q.1] at h <;> exact absurd h (by decide)
  · refine ⟨by omega, by omega, by omega, fun _ => q.2.2.2.1, fun _ => q.2.2.2.2.1, fun h => ?_⟩
    rw [q.1] at h
    exact absurd h (by decide)
/-- the reference's table stands for t -/
def MT (t : Tab) (ms : Int32) (ml : Int64) (mpa mwe mli : Nat → Int32) (mvo : Nat → Int64) : Prop := ms = nI t.1 ∧ ml = t.2.2.2.2 ∧ ∀ k, 1 ≤ k → k ≤ t.1 → mpa k = t.2.1 k ∧ mvo k = t.2.2.2.1 k ∧ mli k = (if t.2.2.1 k = -1 then 0 else 1) ∧ (t.2.2.1 k ≠ -1 → mwe k = t.2.2.1 k)
abbrev MTup : Type := Int32 × Int64 × (Nat → Int32) × (Nat → Int32) × (Nat → Int32) × (Nat → Int64)
def MStep (t : Tab) (o : Option MTup) : Prop := ∃ ms ml mpa mwe mli mvo, o = some (ms, ml, mpa, mwe, mli, mvo) ∧ MT t ms ml mpa mwe mli mvo
theorem MStep.mk {t : Tab} {o : Option MTup} {ms ml mpa mwe mli mvo} (h : o = some (ms, ml, mpa, mwe, mli, mvo)) (hm : MT t ms ml mpa mwe mli mvo) : MStep t o := ⟨ms, ml, mpa, mwe, mli, mvo, h, hm⟩
theorem comes_ok {n : Nat} (hn : n < 120) (mpa mwe mli : Nat → Int32) (mvo : Nat → Int64) (p1 p2 : Int32) (p3 : Int64) (p4 : Int32) : fX9_comes (nI n) mpa mwe mli mvo p1 p2 p3 p4 = some (nI (n + 1), upd mpa (n + 1) p1, upd mwe (n + 1) p2, upd mli (n + 1) (vp_nar .boolean p4), vp_updL mvo (n + 1) p3) := by
  unfold fX9_comes
  rw [nI_1, if_pos (ib_nI (by omega) (by omega)), nI_clamp (by omega)]
theorem MT_push {t : Tab} {mpa mwe mli : Nat → Int32} {mvo vo' : Nat → Int64} {ml : Int64} (hl : ml = t.2.2.2.2) (h : ∀ k, 1 ≤ k → k ≤ t.1 → mpa k = t.2.1 k ∧ mvo k = vo' k ∧ mli k = (if t.2.2.1 k = -1 then 0 else 1) ∧ (t.2.2.1 k ≠ -1 → mwe k = t.2.2.1 k)) (p w w' l : Int32) (v : Int64) (h1 : l = if w' = -1 then 0 else 1) (h2 : w' ≠ -1 → w = w') : MT (t.1 + 1, upd t.2.1 (t.1 + 1) p, upd t.2.2.1 (t.1 + 1) w', vp_updL vo' (t.1 + 1) v, t.2.2.2.2) (nI (t.1 + 1)) ml (upd mpa (t.1 + 1) p) (upd mwe (t.1 + 1) w) (upd mli (t.1 + 1) l) (vp_updL mvo (t.1 + 1) v) := by
  refine ⟨rfl, hl, fun k g1 g2 => ?_⟩
  have g2' : k ≤ t.1 + 1 := g2
  show upd mpa (t.1 + 1) p k = upd t.2.1 (t.1 + 1) p k ∧ vp_updL mvo (t.1 + 1) v k = vp_updL vo' (t.1 + 1) v k ∧ upd mli (t.1 + 1) l k = (if upd t.2.2.1 (t.1 + 1) w' k = -1 then 0 else 1) ∧ (upd t.2.2.1 (t.1 + 1) w' k ≠ -1 → upd mwe (t.1 + 1) w k = upd t.2.2.1 (t.1 + 1) w' k)
  by_cases e : k = t.1 + 1
  · subst e
    rw [pk_us, pk_us, pk_us, pk_us, pk_us, pk_uLs, pk_uLs]
    exact ⟨rfl, rfl, h1, h2⟩
  · rw [pk_un e, pk_un e, pk_un e, pk_un e, pk_un e, pk_uLn e, pk_uLn e]
    exact h k g1 (by omega)
theorem vp_b0 : vp_nar .boolean (0 : Int32) = 0 := by decide
theorem vp_b1 : vp_nar .boolean (1 : Int32) = 1 := by decide
theorem mapply {β : Nat → Nat} (hβ : ∀ i, β i < 256) {nb a : Nat} (hnb : nb ≤ 2048) {t : Tab} {u : Nat} {r : Rec} (hr : recAt β a r) (hok : okR t u r) (hn : t.1 ≤ 120) (h5 : r.1 ≠ 5) (ha : a + lenN r.1 ≤ nb) {ms ml mpa mwe mli mvo} (hM : MT t ms ml mpa mwe mli mvo) : MStep (app t r) (fX9_apply_1 nb ms ml (sbk β) mpa mwe mli mvo (nI (a + 2))) := by
  obtain ⟨rfl, hl, hT⟩ := hM
  have hf := okR_fit hok hn
  have h8 := lenN_le hf.1.1 hf.1.2
  have t2 : fX9_take nb (sbk β) (nI (a + 2) + (1 : Int32)) (2 : Int32) = some (lN (numB β (a + 3) 2)) := by
    rw [nI_1]
    exact take_in hβ (by omega) (m := 2) (by omega) (by omega)
  have kk : sbk β (a + 2) = nI r.1 := by
    have := rec_kind hr hf
    have h7 := hf.1.2
    rw [sbk_small (by rw [this]; omega), this]
  have i2 : ib (nI (a + 2)) nb = true := ib_nI (by omega) (by omega)
  have c2 : (nI (a + 2)).toNatClampNeg = a + 2 := nI_clamp (by omega)
  have e1 : nI (a + 2) + (1 : Int32) = nI (a + 3) := nI_1 _
  have e2 : nI (a + 2) + (2 : Int32) = nI (a + 4) := nI_add (a + 2) 2
  have e3 : nI (a + 2) + (3 : Int32) = nI (a + 5) := nI_add (a + 2) 3
  have e4 : nI (a + 2) + (4 : Int32) = nI (a + 6) := nI_add (a + 2) 4
  have hs : hasS r.1 = true → (lN (numB β (a + 3) 2)).toInt32 = nI r.2.1 := fun q => by rw [rec_s hr hf q, lN_i]
  unfold fX9_apply_1
  rw [t2, Option.bind_some, if_pos i2, c2, kk, e1, e2, e3, e4]
  rcases hok with q | q | q | q | q | q | q
  · have hw := rec_w hr hf (by rw [q.1]; decide)
    have hv := rec_v hr (by rw [q.1]; decide)
    have hlen : lenN r.1 = 17 := by rw [q.1]; decide
    rw [q.1] at hw hv
    have hw : β (a + 3) = r.2.2.1 := hw
    have hv : lN (numB β (a + 4) 8) = r.2.2.2 := hv
    have tv : fX9_take nb (sbk β) (nI (a + 4)) (8 : Int32) = some r.2.2.2 := by
      rw [← hv]
      exact take_in hβ (by omega) (m := 8) (by omega) (by omega)
    apply MStep.mk
    · rw [q.1, if_pos (show nI 1 = (1 : Int32) from rfl), if_pos (ib_nI (by omega) (by omega)), tv, Option.bind_some, comes_ok q.2.2.2.1, Option.bind_some]
    · rw [app1 q.1]
      refine MT_push hl hT 0 _ (nI r.2.2.1) _ _ ?_ (fun _ => ?_)
      · rw [vp_b1, if_neg (nI_nm1 (by omega))]
      · rw [nI_clamp (by omega), sbk_small (by omega), hw]
  · have hw := rec_w hr hf (by rw [q.1]; decide)
    have hv := rec_v hr (by rw [q.1]; decide)
    have hlen : lenN r.1 = 19 := by rw [q.1]; decide
    have hs := hs (by rw [q.1]; decide)
    rw [q.1] at hw hv
    have hw : β (a + 5) = r.2.2.1 := hw
    have hv : lN (numB β (a + 6) 8) = r.2.2.2 := hv
    have tv : fX9_take nb (sbk β) (nI (a + 6)) (8 : Int32) = some r.2.2.2 := by
      rw [← hv]
      exact take_in hβ (by omega) (m := 8) (by omega) (by omega)
    apply MStep.mk
    · rw [q.1, if_neg (by decide), if_pos (show nI 2 = (2 : Int32) from rfl), hs, if_pos (ib_nI (by omega) (by omega)), tv, Option.bind_some, if_pos (ib_nI (by omega) (by omega)), Option.bind_some, comes_ok q.2.2.2.1, Option.bind_some]
    · rw [app2 q.1]
      refine MT_push hl (fun k h1 h2 => ?_) _ _ (nI r.2.2.1) _ _ ?_ (fun _ => ?_)
      · obtain ⟨x1, x2, x3, x4⟩ := hT k h1 h2
        refine ⟨x1, ?_, x3, x4⟩
        rw [nI_clamp (by omega)]
        by_cases e : k = r.2.1
        · rw [e, pk_uLs, pk_uLs, (hT r.2.1 q.2.1.1 q.2.1.2).2.1]
        · rw [pk_uLn e, pk_uLn e, x2]
      · rw [vp_b1, if_neg (nI_nm1 (by omega))]
      · rw [nI_clamp (by omega), sbk_small (by omega), hw]
  · have hw := rec_w hr hf (by rw [q.1]; decide)
    have hlen : lenN r.1 = 11 := by rw [q.1]; decide
    have hs := hs (by rw [q.1]; decide)
    rw [q.1] at hw
    have hw : β (a + 5) = r.2.2.1 := hw
    apply MStep.mk
    · rw [q.1, if_neg (by decide), if_neg (by decide), if_pos (show nI 3 = (3 : Int32) from rfl), hs, if_pos (ib_nI (by omega) (by omega)), if_pos (ib_nI (by omega) (by omega))]
    · rw [app3 q.1]
      refine ⟨rfl, hl, fun k h1 h2 => ?_⟩
      obtain ⟨x1, x2, x3, x4⟩ := hT k h1 h2
      refine ⟨x1, x2, ?_, ?_⟩
      · show mli k = if upd t.2.2.1 r.2.1 (nI r.2.2.1) k = -1 then 0 else 1
        by_cases e : k = r.2.1
        · rw [e, pk_us, if_neg (nI_nm1 (by omega)), (hT r.2.1 q.2.1.1 q.2.1.2).2.2.1, if_neg q.2.2.2.2]
        · rw [pk_un e, x3]
      · show upd t.2.2.1 r.2.1 (nI r.2.2.1) k ≠ -1 → upd mwe (nI r.2.1).toNatClampNeg _ k = upd t.2.2.1 r.2.1 (nI r.2.2.1) k
        rw [nI_clamp (show r.2.1 < 2 ^ 31 by omega)]
        by_cases e : k = r.2.1
        · rw [e, pk_us, pk_us]
          intro _
          rw [nI_clamp (by omega), sbk_small (by omega), hw]
        · rw [pk_un e, pk_un e]; exact x4
  · have hlen : lenN r.1 = 10 := by rw [q.1]; decide
    have hs := hs (by rw [q.1]; decide)
    apply MStep.mk
    · rw [q.1, if_neg (by decide), if_neg (by decide), if_neg (by decide), if_pos (show nI 4 = (4 : Int32) from rfl), hs, if_pos (ib_nI (by omega) (by omega))]
    · rw [app4 q.1]
      rw [nI_clamp (show r.2.1 < 2 ^ 31 by omega), vp_b0]
      refine ⟨rfl, by rw [hl, (hT r.2.1 q.2.1.1 q.2.1.2).2.1], fun k h1 h2 => ?_⟩
      obtain ⟨x1, x2, x3, x4⟩ := hT k h1 h2
      refine ⟨x1, ?_, ?_, ?_⟩
      · show vp_updL mvo r.2.1 0 k = vp_updL t.2.2.2.1 r.2.1 0 k
        by_cases e : k = r.2.1
        · rw [e, pk_uLs, pk_uLs]
        · rw [pk_uLn e, pk_uLn e, x2]
      · show upd mli r.2.1 0 k = if upd t.2.2.1 r.2.1 (-1) k = -1 then 0 else 1
        by_cases e : k = r.2.1
        · rw [e, pk_us, pk_us, if_pos rfl]
        · rw [pk_un e, pk_un e, x3]
      · show upd t.2.2.1 r.2.1 (-1) k ≠ -1 → mwe k = upd t.2.2.1 r.2.1 (-1) k
        by_cases e : k = r.2.1
        · rw [e, pk_us]
          intro h
          exact absurd rfl h
        · rw [pk_un e]; exact x4
  · exact absurd q.1 h5
  · have hw := rec_w hr hf (by rw [q.1]; decide)
    have hv := rec_v hr (by rw [q.1]; decide)
    have hlen : lenN r.1 = 19 := by rw [q.1]; decide
    have hs := hs (by rw [q.1]; decide)
    rw [q.1] at hw hv
    have hw : β (a + 5) = r.2.2.1 := hw
    have hv : lN (numB β (a + 6) 8) = r.2.2.2 := hv
    have tv : fX9_take nb (sbk β) (nI (a + 6)) (8 : Int32) = some r.2.2.2 := by
      rw [← hv]
      exact take_in hβ (by omega) (m := 8) (by omega) (by omega)
    by_cases h255 : r.2.2.1 = 255
    · apply MStep.mk
      · rw [q.1, if_neg (by decide), if_neg (by decide), if_neg (by decide), if_neg (by decide), if_neg (by decide), if_pos (show nI 6 = (6 : Int32) from rfl), hs, if_pos (ib_nI (by omega) (by omega)), tv, Option.bind_some, nI_clamp (by omega), sbk_and hβ, hw, h255, if_pos (by decide), comes_ok q.2.2.2.1, Option.bind_some]
      · rw [app6 q.1, h255, if_pos rfl]
        exact MT_push hl hT _ _ (-1) _ _ (by rw [vp_b0, if_pos rfl]) (fun h => absurd rfl h)
    · apply MStep.mk
      · rw [q.1, if_neg (by decide), if_neg (by decide), if_neg (by decide), if_neg (by decide), if_neg (by decide), if_pos (show nI 6 = (6 : Int32) from rfl), hs, if_pos (ib_nI (by omega) (by omega)), tv, Option.bind_some, nI_clamp (by omega), sbk_and hβ, hw, if_neg (show ¬ nI r.2.2.1 = (255 : Int32) from fun h => h255 ((nI_eq (b := 255) (by omega) (by omega)).mp h)), comes_ok q.2.2.2.1, Option.bind_some]
      · rw [app6 q.1, if_neg h255]
        exact MT_push hl hT _ _ (nI r.2.2.1) _ _ (by rw [vp_b1, if_neg (nI_nm1 (by omega))]) (fun h => rfl)
  · have hv := rec_v hr (by rw [q.1]; decide)
    have hlen : lenN r.1 = 16 := by rw [q.1]; decide
    rw [q.1] at hv
    have hv : lN (numB β (a + 3) 8) = r.2.2.2 := hv
    have tv : fX9_take nb (sbk β) (nI (a + 3)) (8 : Int32) = some r.2.2.2 := by
      rw [← hv]
      exact take_in hβ (by omega) (m := 8) (by omega) (by omega)
    apply MStep.mk
    · rw [q.1, if_neg (by decide), if_neg (by decide), if_neg (by decide), if_neg (by decide), if_neg (by decide), if_neg (by decide), tv, Option.bind_some]
    · rw [app7 q.1]
      exact ⟨rfl, rfl, hT⟩
theorem mapply_12 : fX9_apply_2 = fX9_apply_1 := rfl
