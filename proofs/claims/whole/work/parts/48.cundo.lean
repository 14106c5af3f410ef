/-! 48.cundo: the class undoes an act -/
theorem app_old {T : Tab} {u : Nat} {r : Rec} (hv : okR T u r) (h4 : r.1 ≤ 4) : T.1 ≤ (app T r).1 ∧ ∀ k, 1 ≤ k → k ≤ T.1 → (app T r).2.1 k = T.2.1 k ∧ (k ≠ r.2.1 → (app T r).2.2.1 k = T.2.2.1 k ∧ (app T r).2.2.2.1 k = T.2.2.2.1 k) := by
  rcases hv with q | q | q | q | q | q | q
  · rw [app1 q.1]
    refine ⟨Nat.le_succ _, fun k h1 h2 => ?_⟩
    show upd T.2.1 (T.1 + 1) 0 k = T.2.1 k ∧ (k ≠ r.2.1 → upd T.2.2.1 (T.1 + 1) (nI r.2.2.1) k = T.2.2.1 k ∧ vp_updL T.2.2.2.1 (T.1 + 1) r.2.2.2 k = T.2.2.2.1 k)
    rw [pk_un (by omega), pk_un (by omega), pk_uLn (by omega)]
    exact ⟨rfl, fun _ => ⟨rfl, rfl⟩⟩
  · rw [app2 q.1]
    refine ⟨Nat.le_succ _, fun k h1 h2 => ?_⟩
    show upd T.2.1 (T.1 + 1) (nI r.2.1) k = T.2.1 k ∧ (k ≠ r.2.1 → upd T.2.2.1 (T.1 + 1) (nI r.2.2.1) k = T.2.2.1 k ∧ vp_updL (vp_updL T.2.2.2.1 r.2.1 (T.2.2.2.1 r.2.1 - r.2.2.2)) (T.1 + 1) r.2.2.2 k = T.2.2.2.1 k)
    rw [pk_un (by omega), pk_un (by omega), pk_uLn (by omega)]
    exact ⟨rfl, fun h => ⟨rfl, pk_uLn h⟩⟩
  · rw [app3 q.1]
    refine ⟨Nat.le_refl _, fun k h1 h2 => ⟨rfl, fun h => ⟨?_, rfl⟩⟩⟩
    show upd T.2.2.1 r.2.1 (nI r.2.2.1) k = T.2.2.1 k
    exact pk_un h
  · rw [app4 q.1]
    refine ⟨Nat.le_refl _, fun k h1 h2 => ⟨rfl, fun h => ⟨?_, ?_⟩⟩⟩
    · show upd T.2.2.1 r.2.1 (-1) k = T.2.2.1 k
      exact pk_un h
    · show vp_updL T.2.2.2.1 r.2.1 0 k = T.2.2.2.1 k
      exact pk_uLn h
  · omega
  · omega
  · omega
theorem pbef_i {q : Nat → Int32} {u : Nat} (hu : u < 256) : (if (256 : Int32) ≤ nI u then some (0 : Int32) else (if (ib (nI u) 256) = true then some (q (nI u).toNatClampNeg) else none)) = some (q u) := by
  rw [if_neg (show ¬ (256 : Int32) ≤ nI u from nI_ge (a := u) (b := 256) hu (by omega)), if_pos (ib_nI hu (by omega)), nI_clamp (by omega)]
theorem pbef_w {q : Nat → Int32} {u : Nat} (hu : u < 256) : fX4_wellBefore q (nI u) = some (q u) := by
  unfold fX4_wellBefore
  rw [if_neg (show ¬ (256 : Int32) ≤ nI u from nI_ge (a := u) (b := 256) hu (by omega)), if_pos (ib_nI hu (by omega)), nI_clamp (by omega)]
theorem pbef_l {q : Nat → Int64} {u : Nat} (hu : u < 256) : (if (256 : Int32) ≤ nI u then some (0 : Int64) else (if (ib (nI u) 256) = true then some (q (nI u).toNatClampNeg) else none)) = some (q u) := by
  rw [if_neg (show ¬ (256 : Int32) ≤ nI u from nI_ge (a := u) (b := 256) hu (by omega)), if_pos (ib_nI hu (by omega)), nI_clamp (by omega)]
theorem undo_top {sv : List Rec} (hW : Wf sv) (h : 0 < uc sv) : ∃ r t, sv = r :: t ∧ r.1 ≤ 4 := by
  cases sv with
  | nil => exact absurd h (by show ¬ 0 < 0; omega)
  | cons r t =>
    refine ⟨r, t, rfl, ?_⟩
    by_cases h4 : r.1 ≤ 4
    · exact h4
    · rw [uc_not h4] at h
      have h5 := hW.1
      rcases hW.2.1 with q | q | q | q | q | q | q <;> omega
theorem capply5 {r : Rec} {rs : List Rec} {pa we vo sa lo qs ql qt qw qv qn} (hC : CTb rs pa we vo sa lo qs ql qt qw qv qn) (hW : Wf (svs rs)) (hu : uc (svs rs) ≤ 256) (hk : r.1 = 5) (h0 : 0 < uc (svs rs)) : CStep r rs pa we vo sa lo qs ql qt qw qv qn := by
  obtain ⟨rfl, rfl, rfl, hT, hP⟩ := hC
  obtain ⟨r0, t, hsv, h4⟩ := undo_top hW h0
  rw [hsv] at hT hP hu hW ⊢
  obtain ⟨a1, a2, a3, a4⟩ := hP.1 h4
  obtain ⟨b1, b2⟩ := app_old hW.2.1 h4
  have hn := run_le t hW.2.2
  have hut : uc (r0 :: t) = uc t + 1 := uc_act h4
  rw [hut] at hu ⊢
  have hs31 : r0.2.1 < 2 ^ 31 := by rcases hW.2.1 with q | q | q | q | q | q | q <;> omega
  have hsb : fX4_stepBack (nI (uc t + 1)) = some (true, nI (uc t)) := by
    unfold fX4_stepBack
    rw [if_neg (nI_ne0 (by omega) (by omega)), nI_pred]
  have ha : fX4_samplesBefore qs (nI (uc t)) = some (nI (run t).1) := by rw [← a1]; exact pbef_i (by omega)
  have hb : fX4_lostBefore ql (nI (uc t)) = some (run t).2.2.2.2 := by rw [← a2]; exact pbef_l (by omega)
  have hc : fX4_touched qt (nI (uc t)) = some (nI r0.2.1) := by rw [← a3]; exact pbef_i (by omega)
  have hd : fX4_volumeBefore qv (nI (uc t)) = some (qv (uc t)) := pbef_l (by omega)
  by_cases hs : 1 ≤ r0.2.1 ∧ r0.2.1 ≤ (run t).1
  · obtain ⟨c1, c2⟩ := a4 hs.1
    apply CStep.mk
    · unfold fX7_apply
      rw [hk, if_neg (by decide), if_neg (by decide), if_neg (by decide), if_neg (by decide), if_pos (by decide)]
      unfold fX7_applyUndo
      rw [hsb, Option.bind_some]
      dsimp only
      rw [if_neg (by decide), ha, Option.bind_some, hb, Option.bind_some, hc, Option.bind_some, isSample_ok hn hs31, Option.bind_some, decide_eq_true hs, if_neg (by decide), pbef_w (by omega), Option.bind_some, if_pos (ib_nI (by omega) (by omega)), hd, Option.bind_some, Option.bind_some, nI_clamp hs31, c1, c2]
      try rfl
    · unfold CTb
      rw [svs_5 hk, hsv]
      refine ⟨rfl, rfl, rfl, fun k h1 h2 => ?_, hP.2⟩
      have h2' : k ≤ (run t).1 := h2
      obtain ⟨e1, e2⟩ := b2 k h1 h2'
      obtain ⟨f1, f2, f3⟩ := hT k h1 (by show k ≤ (app (run t) r0).1; omega)
      refine ⟨f1.trans e1, ?_, ?_⟩
      · show upd we r0.2.1 ((run t).2.2.1 r0.2.1) k = (run t).2.2.1 k
        by_cases e : k = r0.2.1
        · rw [e, pk_us]
        · rw [pk_un e]; exact f2.trans (e2 e).1
      · show vp_updL vo r0.2.1 ((run t).2.2.2.1 r0.2.1) k = (run t).2.2.2.1 k
        by_cases e : k = r0.2.1
        · rw [e, pk_uLs]
        · rw [pk_uLn e]; exact f3.trans (e2 e).2
  · apply CStep.mk
    · unfold fX7_apply
      rw [hk, if_neg (by decide), if_neg (by decide), if_neg (by decide), if_neg (by decide), if_pos (by decide)]
      unfold fX7_applyUndo
      rw [hsb, Option.bind_some]
      dsimp only
      rw [if_neg (by decide), ha, Option.bind_some, hb, Option.bind_some, hc, Option.bind_some, isSample_ok hn hs31, Option.bind_some, decide_eq_false hs, if_pos (by decide), Option.bind_some]
      try rfl
    · unfold CTb
      rw [svs_5 hk, hsv]
      refine ⟨rfl, rfl, rfl, fun k h1 h2 => ?_, hP.2⟩
      have h2' : k ≤ (run t).1 := h2
      obtain ⟨e1, e2⟩ := b2 k h1 h2'
      obtain ⟨f1, f2, f3⟩ := hT k h1 (by show k ≤ (app (run t) r0).1; omega)
      have e : k ≠ r0.2.1 := fun e => hs (by omega)
      exact ⟨f1.trans e1, f2.trans (e2 e).1, f3.trans (e2 e).2⟩
/-- the class applies any record that is right -/
theorem capply {r : Rec} {rs : List Rec} {pa we vo sa lo qs ql qt qw qv qn} (hC : CTb rs pa we vo sa lo qs ql qt qw qv qn) (hV : Val rs) (hu : uc (svs rs) < 256) (hv : okR (run (svs rs)) (uc (svs rs)) r) : CStep r rs pa we vo sa lo qs ql qt qw qv qn := by
  have hW := val_wf rs hV
  rcases hv with q | q | q | q | q | q | q
  · exact capply1 hC hW hu q.1 q.2.1 q.2.2.2.1
  · exact capply2 hC hW hu q.1 q.2.1 q.2.2.2.1
  · exact capply3 hC hW hu q.1 q.2.1
  · exact capply4 hC hW hu q.1 q.2.1
  · exact capply5 hC hW (by omega) q.1 q.2.1
  · exact capply6 hC q.1 q.2.2.1 q.2.2.2.1
  · exact capply7 hC q.1
