/-! 47.capply: the class applies a record -/
theorem uc_act {r : Rec} {t : List Rec} (h : r.1 ≤ 4) : uc (r :: t) = uc t + 1 := if_pos h
theorem uc_not {r : Rec} {t : List Rec} (h : ¬ r.1 ≤ 4) : uc (r :: t) = uc t := if_neg h
theorem svs_5 {r : Rec} {t : List Rec} (h : r.1 = 5) : svs (r :: t) = (svs t).tail := if_pos h
theorem svs_n5 {r : Rec} {t : List Rec} (h : r.1 ≠ 5) : svs (r :: t) = r :: svs t := if_neg h
theorem app1 {t : Tab} {r : Rec} (h : r.1 = 1) : app t r = (t.1 + 1, upd t.2.1 (t.1 + 1) 0, upd t.2.2.1 (t.1 + 1) (nI r.2.2.1), vp_updL t.2.2.2.1 (t.1 + 1) r.2.2.2, t.2.2.2.2) := if_pos h
theorem app2 {t : Tab} {r : Rec} (h : r.1 = 2) : app t r = (t.1 + 1, upd t.2.1 (t.1 + 1) (nI r.2.1), upd t.2.2.1 (t.1 + 1) (nI r.2.2.1), vp_updL (vp_updL t.2.2.2.1 r.2.1 (t.2.2.2.1 r.2.1 - r.2.2.2)) (t.1 + 1) r.2.2.2, t.2.2.2.2) := by unfold app; rw [if_neg (by omega), if_pos h]
theorem app3 {t : Tab} {r : Rec} (h : r.1 = 3) : app t r = (t.1, t.2.1, upd t.2.2.1 r.2.1 (nI r.2.2.1), t.2.2.2.1, t.2.2.2.2) := by unfold app; rw [if_neg (by omega), if_neg (by omega), if_pos h]
theorem app4 {t : Tab} {r : Rec} (h : r.1 = 4) : app t r = (t.1, t.2.1, upd t.2.2.1 r.2.1 (-1), vp_updL t.2.2.2.1 r.2.1 0, t.2.2.2.2 + t.2.2.2.1 r.2.1) := by unfold app; rw [if_neg (by omega), if_neg (by omega), if_neg (by omega), if_pos h]
theorem app6 {t : Tab} {r : Rec} (h : r.1 = 6) : app t r = (t.1 + 1, upd t.2.1 (t.1 + 1) (nI r.2.1), upd t.2.2.1 (t.1 + 1) (if r.2.2.1 = 255 then -1 else nI r.2.2.1), vp_updL t.2.2.2.1 (t.1 + 1) r.2.2.2, t.2.2.2.2) := by unfold app; rw [if_neg (by omega), if_neg (by omega), if_neg (by omega), if_neg (by omega), if_pos h]
theorem app7 {t : Tab} {r : Rec} (h : r.1 = 7) : app t r = (t.1, t.2.1, t.2.2.1, t.2.2.2.1, r.2.2.2) := by unfold app; rw [if_neg (by omega), if_neg (by omega), if_neg (by omega), if_neg (by omega), if_neg (by omega), if_pos h]
/-- the past behind an act: the new entry, the older ones as they were -/
theorem PR_push {qs ql qt qw qv} {r : Rec} {sv : List Rec} (h4 : r.1 ≤ 4) (hp : PR qs ql qt qw qv sv) (a : Int32) (b : Int64) (hab : 1 ≤ r.2.1 → a = (run sv).2.2.1 r.2.1 ∧ b = (run sv).2.2.2.1 r.2.1) : PR (upd qs (uc sv) (nI (run sv).1)) (vp_updL ql (uc sv) (run sv).2.2.2.2) (upd qt (uc sv) (nI r.2.1)) (upd qw (uc sv) a) (vp_updL qv (uc sv) b) (r :: sv) := by
  refine ⟨fun _ => ⟨pk_us, pk_uLs, pk_us, fun h1 => ⟨?_, ?_⟩⟩, PR_cong sv (fun i hi => ?_) hp⟩
  · rw [pk_us]; exact (hab h1).1
  · rw [pk_uLs]; exact (hab h1).2
  · exact ⟨pk_un (by omega), pk_uLn (by omega), pk_un (by omega), pk_un (by omega), pk_uLn (by omega)⟩
theorem TA_push {pa we vo} {t : Tab} (h : TA pa we vo t) (p w : Int32) (v : Int64) (lo : Int64) : TA (upd pa (t.1 + 1) p) (upd we (t.1 + 1) w) (vp_updL vo (t.1 + 1) v) (t.1 + 1, upd t.2.1 (t.1 + 1) p, upd t.2.2.1 (t.1 + 1) w, vp_updL t.2.2.2.1 (t.1 + 1) v, lo) := by
  intro k h1 h2
  have h2' : k ≤ t.1 + 1 := h2
  show upd pa (t.1 + 1) p k = upd t.2.1 (t.1 + 1) p k ∧ upd we (t.1 + 1) w k = upd t.2.2.1 (t.1 + 1) w k ∧ vp_updL vo (t.1 + 1) v k = vp_updL t.2.2.2.1 (t.1 + 1) v k
  by_cases e : k = t.1 + 1
  · subst e
    rw [pk_us, pk_us, pk_us, pk_us, pk_uLs, pk_uLs]
    exact ⟨rfl, rfl, rfl⟩
  · rw [pk_un e, pk_un e, pk_un e, pk_un e, pk_uLn e, pk_uLn e]
    exact h k h1 (by omega)
theorem TA_vol {pa we vo} {t : Tab} (h : TA pa we vo t) (s : Nat) (v : Int64) (lo : Int64) : TA pa we (vp_updL vo s v) (t.1, t.2.1, t.2.2.1, vp_updL t.2.2.2.1 s v, lo) := by
  intro k h1 h2
  obtain ⟨a, b, c⟩ := h k h1 h2
  refine ⟨a, b, ?_⟩
  show vp_updL vo s v k = vp_updL t.2.2.2.1 s v k
  by_cases e : k = s
  · subst e; rw [pk_uLs, pk_uLs]
  · rw [pk_uLn e, pk_uLn e]; exact c
theorem TA_well {pa we vo} {t : Tab} (h : TA pa we vo t) (s : Nat) (w : Int32) (lo : Int64) : TA pa (upd we s w) vo (t.1, t.2.1, upd t.2.2.1 s w, t.2.2.2.1, lo) := by
  intro k h1 h2
  obtain ⟨a, b, c⟩ := h k h1 h2
  refine ⟨a, ?_, c⟩
  show upd we s w k = upd t.2.2.1 s w k
  by_cases e : k = s
  · subst e; rw [pk_us, pk_us]
  · rw [pk_un e, pk_un e]; exact b
/-- what the class's apply answers, for a record that is right -/
def CStep (r : Rec) (rs : List Rec) (pa we : Nat → Int32) (vo : Nat → Int64) (sa : Int32) (lo : Int64) (qs : Nat → Int32) (ql : Nat → Int64) (qt qw : Nat → Int32) (qv : Nat → Int64) (qn : Int32) : Prop :=
  ∃ pa' we' vo' sa' lo' qs' ql' qt' qw' qv' qn', fX7_apply (nI r.1) (nI r.2.1) (nI r.2.2.1) r.2.2.2 pa we vo sa lo qs ql qt qw qv qn = some (pa', we', vo', sa', lo', qs', ql', qt', qw', qv', qn') ∧ CTb (r :: rs) pa' we' vo' sa' lo' qs' ql' qt' qw' qv' qn'
theorem CStep.mk {r : Rec} {rs : List Rec} {pa we vo sa lo qs ql qt qw qv qn} {pa' we' vo' sa' lo' qs' ql' qt' qw' qv' qn'} (h1 : fX7_apply (nI r.1) (nI r.2.1) (nI r.2.2.1) r.2.2.2 pa we vo sa lo qs ql qt qw qv qn = some (pa', we', vo', sa', lo', qs', ql', qt', qw', qv', qn')) (h2 : CTb (r :: rs) pa' we' vo' sa' lo' qs' ql' qt' qw' qv' qn') : CStep r rs pa we vo sa lo qs ql qt qw qv qn := ⟨pa', we', vo', sa', lo', qs', ql', qt', qw', qv', qn', h1, h2⟩
theorem capply1 {r : Rec} {rs : List Rec} {pa we vo sa lo qs ql qt qw qv qn} (hC : CTb rs pa we vo sa lo qs ql qt qw qv qn) (hW : Wf (svs rs)) (hu : uc (svs rs) < 256) (hk : r.1 = 1) (hs : r.2.1 = 0) (hn : (run (svs rs)).1 < 120) : CStep r rs pa we vo sa lo qs ql qt qw qv qn := by
  obtain ⟨k0, s0, w0, v0⟩ := r
  have hk : k0 = 1 := hk
  have hs : s0 = 0 := hs
  subst hk
  subst hs
  obtain ⟨rfl, rfl, rfl, hT, hP⟩ := hC
  generalize hsv : svs rs = sv at hT hP hu hn hW ⊢
  apply CStep.mk
  · unfold fX7_apply
    dsimp only
    rw [if_pos (by decide)]
    unfold fX7_applyRegister
    have hr := remember_ok (we := we) (vo := vo) (qs := qs) (ql := ql) (qt := qt) (qw := qw) (qv := qv) (n := (run sv).1) (u := uc sv) (s := 0) (by omega) hu (by omega) (run sv).2.2.2.2
    rw [show (0 : Int32) = nI 0 from rfl, hr, Option.bind_some]
    dsimp only
    rw [addSample_ok hn, Option.bind_some, Option.bind_some]
    try rfl
  · unfold CTb
    rw [svs_n5 (by show (1 : Nat) ≠ 5; omega), hsv]
    show _ = nI (app (run sv) (1, 0, w0, v0)).1 ∧ _ = (app (run sv) (1, 0, w0, v0)).2.2.2.2 ∧ _ = nI (uc ((1, 0, w0, v0) :: sv)) ∧ TA _ _ _ (app (run sv) (1, 0, w0, v0)) ∧ _
    rw [app1 rfl, uc_act (by show 1 ≤ 4; omega)]
    exact ⟨rfl, rfl, rfl, TA_push hT 0 (nI w0) v0 _, PR_push (r := (1, 0, w0, v0)) (by show 1 ≤ 4; omega) hP _ _ (fun h => absurd h (by show ¬ 1 ≤ 0; omega))⟩
theorem capply2 {r : Rec} {rs : List Rec} {pa we vo sa lo qs ql qt qw qv qn} (hC : CTb rs pa we vo sa lo qs ql qt qw qv qn) (hW : Wf (svs rs)) (hu : uc (svs rs) < 256) (hk : r.1 = 2) (hs : 1 ≤ r.2.1 ∧ r.2.1 ≤ (run (svs rs)).1) (hn : (run (svs rs)).1 < 120) : CStep r rs pa we vo sa lo qs ql qt qw qv qn := by
  obtain ⟨rfl, rfl, rfl, hT, hP⟩ := hC
  generalize hsv : svs rs = sv at hT hP hu hn hW hs ⊢
  obtain ⟨t1, t2, t3⟩ := hT r.2.1 hs.1 hs.2
  apply CStep.mk
  · unfold fX7_apply
    rw [hk, if_neg (by decide), if_pos (by decide)]
    unfold fX7_applyAliquot
    rw [isSample_ok (by omega) (by omega), Option.bind_some, decide_eq_true hs, if_neg (by decide), remember_ok (by omega) hu (by omega), Option.bind_some]
    dsimp only
    rw [if_pos (ib_nI (by omega) (by omega)), nI_clamp (by omega), addSample_ok hn, Option.bind_some, Option.bind_some, if_pos hs, if_pos hs, t3]
    try rfl
  · unfold CTb
    rw [svs_n5 (by omega), hsv]
    show _ = nI (app (run sv) r).1 ∧ _ = (app (run sv) r).2.2.2.2 ∧ _ = nI (uc (r :: sv)) ∧ TA _ _ _ (app (run sv) r) ∧ _
    rw [app2 hk, uc_act (by omega)]
    exact ⟨rfl, rfl, rfl, TA_push (TA_vol hT r.2.1 ((run sv).2.2.2.1 r.2.1 - r.2.2.2) (run sv).2.2.2.2) (nI r.2.1) (nI r.2.2.1) r.2.2.2 _, PR_push (by omega) hP _ _ (fun _ => ⟨t2, rfl⟩)⟩
theorem capply3 {r : Rec} {rs : List Rec} {pa we vo sa lo qs ql qt qw qv qn} (hC : CTb rs pa we vo sa lo qs ql qt qw qv qn) (hW : Wf (svs rs)) (hu : uc (svs rs) < 256) (hk : r.1 = 3) (hs : 1 ≤ r.2.1 ∧ r.2.1 ≤ (run (svs rs)).1) : CStep r rs pa we vo sa lo qs ql qt qw qv qn := by
  obtain ⟨rfl, rfl, rfl, hT, hP⟩ := hC
  have hn := run_le _ hW
  generalize hsv : svs rs = sv at hT hP hu hn hW hs ⊢
  obtain ⟨t1, t2, t3⟩ := hT r.2.1 hs.1 hs.2
  apply CStep.mk
  · unfold fX7_apply
    rw [hk, if_neg (by decide), if_neg (by decide), if_pos (by decide)]
    unfold fX7_applyMove
    rw [isSample_ok (by omega) (by omega), Option.bind_some, decide_eq_true hs, if_neg (by decide), remember_ok (by omega) hu (by omega), Option.bind_some]
    dsimp only
    rw [if_pos (ib_nI (by omega) (by omega)), nI_clamp (by omega), Option.bind_some, if_pos hs, if_pos hs]
    try rfl
  · unfold CTb
    rw [svs_n5 (by omega), hsv]
    show _ = nI (app (run sv) r).1 ∧ _ = (app (run sv) r).2.2.2.2 ∧ _ = nI (uc (r :: sv)) ∧ TA _ _ _ (app (run sv) r) ∧ _
    rw [app3 hk, uc_act (by omega)]
    exact ⟨rfl, rfl, rfl, TA_well hT r.2.1 (nI r.2.2.1) _, PR_push (by omega) hP _ _ (fun _ => ⟨t2, t3⟩)⟩
theorem capply4 {r : Rec} {rs : List Rec} {pa we vo sa lo qs ql qt qw qv qn} (hC : CTb rs pa we vo sa lo qs ql qt qw qv qn) (hW : Wf (svs rs)) (hu : uc (svs rs) < 256) (hk : r.1 = 4) (hs : 1 ≤ r.2.1 ∧ r.2.1 ≤ (run (svs rs)).1) : CStep r rs pa we vo sa lo qs ql qt qw qv qn := by
  obtain ⟨rfl, rfl, rfl, hT, hP⟩ := hC
  have hn := run_le _ hW
  generalize hsv : svs rs = sv at hT hP hu hn hW hs ⊢
  obtain ⟨t1, t2, t3⟩ := hT r.2.1 hs.1 hs.2
  apply CStep.mk
  · unfold fX7_apply
    rw [hk, if_neg (by decide), if_neg (by decide), if_neg (by decide), if_pos (by decide)]
    unfold fX7_applyDiscard
    rw [isSample_ok (by omega) (by omega), Option.bind_some, decide_eq_true hs, if_neg (by decide), remember_ok (by omega) hu (by omega), Option.bind_some]
    dsimp only
    rw [if_pos (ib_nI (by omega) (by omega)), nI_clamp (by omega), Option.bind_some, if_pos hs, if_pos hs, t3]
    try rfl
  · unfold CTb
    rw [svs_n5 (by omega), hsv]
    show _ = nI (app (run sv) r).1 ∧ _ = (app (run sv) r).2.2.2.2 ∧ _ = nI (uc (r :: sv)) ∧ TA _ _ _ (app (run sv) r) ∧ _
    rw [app4 hk, uc_act (by omega)]
    exact ⟨rfl, rfl, rfl, TA_well (TA_vol hT r.2.1 0 (run sv).2.2.2.2) r.2.1 (-1) _, PR_push (by omega) hP _ _ (fun _ => ⟨t2, rfl⟩)⟩
theorem capply6 {r : Rec} {rs : List Rec} {pa we vo sa lo qs ql qt qw qv qn} (hC : CTb rs pa we vo sa lo qs ql qt qw qv qn) (hk : r.1 = 6) (hw : r.2.2.1 < 48 ∨ r.2.2.1 = 255) (hn : (run (svs rs)).1 < 120) : CStep r rs pa we vo sa lo qs ql qt qw qv qn := by
  obtain ⟨rfl, rfl, rfl, hT, hP⟩ := hC
  generalize hsv : svs rs = sv at hT hP hn ⊢
  have hK : fX7_applyKept (nI r.2.1) (nI r.2.2.1) r.2.2.2 pa we vo (nI (run sv).1) = some (upd pa ((run sv).1 + 1) (nI r.2.1), upd we ((run sv).1 + 1) (if r.2.2.1 = 255 then -1 else nI r.2.2.1), vp_updL vo ((run sv).1 + 1) r.2.2.2, nI ((run sv).1 + 1)) := by
    unfold fX7_applyKept
    by_cases e : r.2.2.1 = 255
    · rw [e, if_pos (by decide), addSample_ok hn, Option.bind_some, if_pos rfl]
    · rw [if_neg (show ¬ nI r.2.2.1 = (255 : Int32) from fun h => e ((nI_eq (b := 255) (by omega) (by omega)).mp h)), addSample_ok hn, Option.bind_some, if_neg e]
  apply CStep.mk
  · unfold fX7_apply
    rw [hk, if_neg (by decide), if_neg (by decide), if_neg (by decide), if_neg (by decide), if_neg (by decide), if_pos (by decide), hK, Option.bind_some]
    try rfl
  · unfold CTb
    rw [svs_n5 (by omega), hsv]
    show _ = nI (app (run sv) r).1 ∧ _ = (app (run sv) r).2.2.2.2 ∧ _ = nI (uc (r :: sv)) ∧ TA _ _ _ (app (run sv) r) ∧ _
    rw [app6 hk, uc_not (by omega)]
    exact ⟨rfl, rfl, rfl, TA_push hT (nI r.2.1) (if r.2.2.1 = 255 then -1 else nI r.2.2.1) r.2.2.2 _, fun h => by omega, hP⟩
theorem capply7 {r : Rec} {rs : List Rec} {pa we vo sa lo qs ql qt qw qv qn} (hC : CTb rs pa we vo sa lo qs ql qt qw qv qn) (hk : r.1 = 7) : CStep r rs pa we vo sa lo qs ql qt qw qv qn := by
  obtain ⟨rfl, rfl, rfl, hT, hP⟩ := hC
  generalize hsv : svs rs = sv at hT hP ⊢
  apply CStep.mk
  · unfold fX7_apply
    rw [hk, if_neg (by decide), if_neg (by decide), if_neg (by decide), if_neg (by decide), if_neg (by decide), if_neg (by decide), if_pos (by decide)]
    try rfl
  · unfold CTb
    rw [svs_n5 (by omega), hsv]
    show _ = nI (app (run sv) r).1 ∧ _ = (app (run sv) r).2.2.2.2 ∧ _ = nI (uc (r :: sv)) ∧ TA _ _ _ (app (run sv) r) ∧ _
    rw [app7 hk, uc_not (by omega)]
    exact ⟨rfl, rfl, rfl, hT, fun h => by omega, hP⟩
