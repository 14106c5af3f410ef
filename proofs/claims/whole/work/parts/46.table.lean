/-! 46.table: the table that records make, and the class's table and past -/
abbrev Rec : Type := Nat × Nat × Nat × Int64
abbrev Tab : Type := Nat × (Nat → Int32) × (Nat → Int32) × (Nat → Int64) × Int64
def T0 : Tab := (0, fun _ => 0, fun _ => 0, fun _ => 0, 0)
def app (t : Tab) (r : Rec) : Tab :=
  if r.1 = 1 then (t.1 + 1, upd t.2.1 (t.1 + 1) 0, upd t.2.2.1 (t.1 + 1) (nI r.2.2.1), vp_updL t.2.2.2.1 (t.1 + 1) r.2.2.2, t.2.2.2.2)
  else if r.1 = 2 then (t.1 + 1, upd t.2.1 (t.1 + 1) (nI r.2.1), upd t.2.2.1 (t.1 + 1) (nI r.2.2.1), vp_updL (vp_updL t.2.2.2.1 r.2.1 (t.2.2.2.1 r.2.1 - r.2.2.2)) (t.1 + 1) r.2.2.2, t.2.2.2.2)
  else if r.1 = 3 then (t.1, t.2.1, upd t.2.2.1 r.2.1 (nI r.2.2.1), t.2.2.2.1, t.2.2.2.2)
  else if r.1 = 4 then (t.1, t.2.1, upd t.2.2.1 r.2.1 (-1), vp_updL t.2.2.2.1 r.2.1 0, t.2.2.2.2 + t.2.2.2.1 r.2.1)
  else if r.1 = 6 then (t.1 + 1, upd t.2.1 (t.1 + 1) (nI r.2.1), upd t.2.2.1 (t.1 + 1) (if r.2.2.1 = 255 then -1 else nI r.2.2.1), vp_updL t.2.2.2.1 (t.1 + 1) r.2.2.2, t.2.2.2.2)
  else if r.1 = 7 then (t.1, t.2.1, t.2.2.1, t.2.2.2.1, r.2.2.2)
  else t
def run : List Rec → Tab
  | [] => T0
  | r :: t => app (run t) r
def svs : List Rec → List Rec
  | [] => []
  | r :: t => if r.1 = 5 then (svs t).tail else r :: svs t
def uc : List Rec → Nat
  | [] => 0
  | r :: t => if r.1 ≤ 4 then uc t + 1 else uc t
def sumT (t : Tab) : Int := fb_si (fun k => (t.2.2.2.1 (k + 1)).toInt) t.1 + t.2.2.2.2.toInt
def okR (t : Tab) (u : Nat) (r : Rec) : Prop :=
  (r.1 = 1 ∧ r.2.1 = 0 ∧ r.2.2.1 < 48 ∧ t.1 < 120 ∧ 1 ≤ r.2.2.2.toInt ∧ sumT t + r.2.2.2.toInt < 9223372036854775808) ∨
  (r.1 = 2 ∧ (1 ≤ r.2.1 ∧ r.2.1 ≤ t.1) ∧ r.2.2.1 < 48 ∧ t.1 < 120 ∧ 1 ≤ r.2.2.2.toInt ∧ r.2.2.2.toInt ≤ (t.2.2.2.1 r.2.1).toInt) ∨
  (r.1 = 3 ∧ (1 ≤ r.2.1 ∧ r.2.1 ≤ t.1) ∧ r.2.2.1 < 48 ∧ r.2.2.2 = 0 ∧ t.2.2.1 r.2.1 ≠ -1) ∨
  (r.1 = 4 ∧ (1 ≤ r.2.1 ∧ r.2.1 ≤ t.1) ∧ r.2.2.1 = 0 ∧ r.2.2.2 = 0) ∨
  (r.1 = 5 ∧ 0 < u ∧ r.2.1 = 0 ∧ r.2.2.1 = 0 ∧ r.2.2.2 = 0) ∨
  (r.1 = 6 ∧ r.2.1 ≤ t.1 ∧ (r.2.2.1 < 48 ∨ r.2.2.1 = 255) ∧ t.1 < 120 ∧ u = 0 ∧ 0 ≤ r.2.2.2.toInt ∧ sumT t + r.2.2.2.toInt < 9223372036854775808) ∨
  (r.1 = 7 ∧ t.1 = 0 ∧ u = 0 ∧ r.2.1 = 0 ∧ r.2.2.1 = 0 ∧ 0 ≤ r.2.2.2.toInt)
/-- the surviving records are well formed -/
def Wf : List Rec → Prop
  | [] => True
  | r :: t => r.1 ≠ 5 ∧ okR (run t) (uc t) r ∧ Wf t
def Val : List Rec → Prop
  | [] => True
  | r :: t => okR (run (svs t)) (uc (svs t)) r ∧ Val t
theorem Wf.tail {l : List Rec} (h : Wf l) : Wf l.tail := by
  cases l with
  | nil => exact h
  | cons r t => exact h.2.2
theorem val_wf : ∀ (l : List Rec), Val l → Wf (svs l)
  | [], _ => trivial
  | r :: t, h => by
    show Wf (if r.1 = 5 then (svs t).tail else r :: svs t)
    by_cases e : r.1 = 5
    · rw [if_pos e]
      exact (val_wf t h.2).tail
    · rw [if_neg e]
      exact ⟨e, h.1, val_wf t h.2⟩
theorem okR_kind {t : Tab} {u : Nat} {r : Rec} (h : okR t u r) : 1 ≤ r.1 ∧ r.1 ≤ 7 := by
  rcases h with h | h | h | h | h | h | h <;> omega
theorem run_le : ∀ (l : List Rec), Wf l → (run l).1 ≤ 120
  | [], _ => by show 0 ≤ 120; omega
  | r :: t, h => by
    have ih := run_le t h.2.2
    show (app (run t) r).1 ≤ 120
    unfold app
    rcases h.2.1 with q | q | q | q | q | q | q
    · rw [if_pos q.1]; show (run t).1 + 1 ≤ 120; omega
    · rw [if_neg (by omega), if_pos q.1]; show (run t).1 + 1 ≤ 120; omega
    · rw [if_neg (by omega), if_neg (by omega), if_pos q.1]; exact ih
    · rw [if_neg (by omega), if_neg (by omega), if_neg (by omega), if_pos q.1]; exact ih
    · exact absurd q.1 h.1
    · rw [if_neg (by omega), if_neg (by omega), if_neg (by omega), if_neg (by omega), if_pos q.1]; show (run t).1 + 1 ≤ 120; omega
    · rw [if_neg (by omega), if_neg (by omega), if_neg (by omega), if_neg (by omega), if_neg (by omega), if_pos q.1]; exact ih
theorem uc_le : ∀ (l : List Rec), uc l ≤ l.length
  | [] => Nat.le_refl _
  | r :: t => by
    have := uc_le t
    show (if r.1 ≤ 4 then uc t + 1 else uc t) ≤ t.length + 1
    split <;> omega
theorem svs_len : ∀ (l : List Rec), (svs l).length ≤ l.length
  | [] => Nat.le_refl _
  | r :: t => by
    have := svs_len t
    show (if r.1 = 5 then (svs t).tail else r :: svs t).length ≤ t.length + 1
    split
    · rw [List.length_tail]; omega
    · show (svs t).length + 1 ≤ t.length + 1; omega
/-- agreement on the samples that are there -/
def TA (pa we : Nat → Int32) (vo : Nat → Int64) (t : Tab) : Prop := ∀ k, 1 ≤ k → k ≤ t.1 → pa k = t.2.1 k ∧ we k = t.2.2.1 k ∧ vo k = t.2.2.2.1 k
def PR (qs : Nat → Int32) (ql : Nat → Int64) (qt qw : Nat → Int32) (qv : Nat → Int64) : List Rec → Prop
  | [] => True
  | r :: t => (r.1 ≤ 4 → qs (uc t) = nI (run t).1 ∧ ql (uc t) = (run t).2.2.2.2 ∧ qt (uc t) = nI r.2.1 ∧ (1 ≤ r.2.1 → qw (uc t) = (run t).2.2.1 r.2.1 ∧ qv (uc t) = (run t).2.2.2.1 r.2.1)) ∧ PR qs ql qt qw qv t
theorem PR_cong {qs ql qt qw qv qs' ql' qt' qw' qv'} : ∀ (l : List Rec), (∀ i, i < uc l → qs' i = qs i ∧ ql' i = ql i ∧ qt' i = qt i ∧ qw' i = qw i ∧ qv' i = qv i) → PR qs ql qt qw qv l → PR qs' ql' qt' qw' qv' l
  | [], _, _ => trivial
  | r :: t, h, hp => by
    refine ⟨fun h4 => ?_, PR_cong t (fun i hi => h i ?_) hp.2⟩
    · obtain ⟨e1, e2, e3, e4, e5⟩ := h (uc t) (by show uc t < (if r.1 ≤ 4 then uc t + 1 else uc t); rw [if_pos h4]; omega)
      obtain ⟨a1, a2, a3, a4⟩ := hp.1 h4
      exact ⟨by rw [e1, a1], by rw [e2, a2], by rw [e3, a3], fun h1 => ⟨by rw [e4, (a4 h1).1], by rw [e5, (a4 h1).2]⟩⟩
    · show i < (if r.1 ≤ 4 then uc t + 1 else uc t)
      split <;> omega
/-- the class's table and past stand for the records rs (the latest first) -/
def CTb (rs : List Rec) (pa we : Nat → Int32) (vo : Nat → Int64) (sa : Int32) (lo : Int64) (qs : Nat → Int32) (ql : Nat → Int64) (qt qw : Nat → Int32) (qv : Nat → Int64) (qn : Int32) : Prop :=
  sa = nI (run (svs rs)).1 ∧ lo = (run (svs rs)).2.2.2.2 ∧ qn = nI (uc (svs rs)) ∧ TA pa we vo (run (svs rs)) ∧ PR qs ql qt qw qv (svs rs)
theorem isSample_ok {n s : Nat} (hn : n ≤ 120) (hs : s < 2 ^ 31) : fX7_isSample (nI n) (nI s) = some (decide (1 ≤ s ∧ s ≤ n)) := by
  unfold fX7_isSample
  by_cases h1 : 1 ≤ s
  · rw [if_neg (show ¬ nI s < (1 : Int32) from nI_nlt (a := s) (b := 1) h1 hs)]
    by_cases h2 : s ≤ n
    · rw [if_neg (nI_nlt h2 (by omega)), if_neg (show ¬ (120 : Int32) < nI n from nI_nlt (a := 120) (b := n) hn (by omega))]
      simp [h1, h2]
    · rw [if_pos (nI_lt (by omega) hs)]
      simp [h2]
  · rw [if_pos (show nI s < (1 : Int32) from nI_lt (a := s) (b := 1) (by omega) (by omega))]
    simp [h1]
theorem wellOf_ok {we : Nat → Int32} {n s : Nat} (hn : n ≤ 120) (hs : s < 2 ^ 31) : fX7_wellOf we (nI n) (nI s) = some (if 1 ≤ s ∧ s ≤ n then we s else -1) := by
  unfold fX7_wellOf
  rw [isSample_ok hn hs, Option.bind_some]
  by_cases h : 1 ≤ s ∧ s ≤ n
  · rw [if_pos h, decide_eq_true h, if_neg (by decide), if_pos (ib_nI (by omega) (by omega)), nI_clamp hs]
  · rw [if_neg h, decide_eq_false h, if_pos (by decide)]
theorem parentOf_ok {pa : Nat → Int32} {n s : Nat} (hn : n ≤ 120) (hs : s < 2 ^ 31) : fX7_parentOf pa (nI n) (nI s) = some (if 1 ≤ s ∧ s ≤ n then pa s else 0) := by
  unfold fX7_parentOf
  rw [isSample_ok hn hs, Option.bind_some]
  by_cases h : 1 ≤ s ∧ s ≤ n
  · rw [if_pos h, decide_eq_true h, if_neg (by decide), if_pos (ib_nI (by omega) (by omega)), nI_clamp hs]
  · rw [if_neg h, decide_eq_false h, if_pos (by decide)]
theorem volumeOf_ok {vo : Nat → Int64} {n s : Nat} (hn : n ≤ 120) (hs : s < 2 ^ 31) : fX7_volumeOf vo (nI n) (nI s) = some (if 1 ≤ s ∧ s ≤ n then vo s else -1) := by
  unfold fX7_volumeOf
  rw [isSample_ok hn hs, Option.bind_some]
  by_cases h : 1 ≤ s ∧ s ≤ n
  · rw [if_pos h, decide_eq_true h, if_neg (by decide), if_pos (ib_nI (by omega) (by omega)), nI_clamp hs]
  · rw [if_neg h, decide_eq_false h, if_pos (by decide)]
theorem add_ok {qs ql qt qw qv} {u : Nat} (hu : u < 256) (p1 : Int32) (p2 : Int64) (p3 p4 : Int32) (p5 : Int64) : fX4_add qs ql qt qw qv (nI u) p1 p2 p3 p4 p5 = some (upd qs u p1, vp_updL ql u p2, upd qt u p3, upd qw u p4, vp_updL qv u p5, nI (u + 1)) := by
  unfold fX4_add
  rw [if_neg (show ¬ (256 : Int32) ≤ nI u from nI_ge (a := u) (b := 256) hu (by omega)), if_pos (ib_nI hu (by omega)), nI_clamp (by omega), nI_1]
theorem addSample_ok {pa we vo} {n : Nat} (hn : n < 120) (p1 p2 : Int32) (p3 : Int64) : fX7_addSample pa we vo (nI n) p1 p2 p3 = some (upd pa (n + 1) p1, upd we (n + 1) p2, vp_updL vo (n + 1) p3, nI (n + 1)) := by
  unfold fX7_addSample fX7_isFull
  rw [if_pos (show nI n < (120 : Int32) from nI_lt (a := n) (b := 120) hn (by omega)), Option.bind_some, if_pos (by decide), nI_1, if_pos (ib_nI (by omega) (by omega)), nI_clamp (by omega)]
theorem remember_ok {we vo qs ql qt qw qv} {n u s : Nat} (hn : n ≤ 120) (hu : u < 256) (hs : s < 2 ^ 31) (lo : Int64) : fX7_remember we vo (nI n) lo qs ql qt qw qv (nI u) (nI s) = some (upd qs u (nI n), vp_updL ql u lo, upd qt u (nI s), upd qw u (if 1 ≤ s ∧ s ≤ n then we s else -1), vp_updL qv u (if 1 ≤ s ∧ s ≤ n then vo s else -1), nI (u + 1)) := by
  unfold fX7_remember
  rw [wellOf_ok hn hs, Option.bind_some, volumeOf_ok hn hs, Option.bind_some, add_ok hu, Option.bind_some]
