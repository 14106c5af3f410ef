/-! 60.kept: a table written anew, as records -/
def TabOk (t : Tab) : Prop := ∀ k, 1 ≤ k → k ≤ t.1 → (∃ s, s < k ∧ t.2.1 k = nI s) ∧ (t.2.2.1 k = -1 ∨ ∃ w, w < 48 ∧ t.2.2.1 k = nI w)
theorem TabOk.push {t : Tab} (h : TabOk t) {p w : Int32} (hp : ∃ s, s < t.1 + 1 ∧ p = nI s) (hw : w = -1 ∨ ∃ x, x < 48 ∧ w = nI x) (vo : Nat → Int64) (lo : Int64) : TabOk (t.1 + 1, upd t.2.1 (t.1 + 1) p, upd t.2.2.1 (t.1 + 1) w, vo, lo) := by
  intro k h1 h2
  have h2' : k ≤ t.1 + 1 := h2
  show (∃ s, s < k ∧ upd t.2.1 (t.1 + 1) p k = nI s) ∧ (upd t.2.2.1 (t.1 + 1) w k = -1 ∨ ∃ x, x < 48 ∧ upd t.2.2.1 (t.1 + 1) w k = nI x)
  by_cases e : k = t.1 + 1
  · subst e
    rw [pk_us, pk_us]
    exact ⟨hp, hw⟩
  · rw [pk_un e, pk_un e]
    exact h k h1 (by omega)
theorem TabOk.well {t : Tab} (h : TabOk t) (s : Nat) {w : Int32} (hw : w = -1 ∨ ∃ x, x < 48 ∧ w = nI x) (vo : Nat → Int64) (lo : Int64) : TabOk (t.1, t.2.1, upd t.2.2.1 s w, vo, lo) := by
  intro k h1 h2
  obtain ⟨a, b⟩ := h k h1 h2
  refine ⟨a, ?_⟩
  show upd t.2.2.1 s w k = -1 ∨ ∃ x, x < 48 ∧ upd t.2.2.1 s w k = nI x
  by_cases e : k = s
  · subst e; rw [pk_us]; exact hw
  · rw [pk_un e]; exact b
theorem Wf.tab : ∀ {l : List Rec}, Wf l → TabOk (run l)
  | [], _ => fun k h1 h2 => absurd h2 (by show ¬ k ≤ 0; omega)
  | r :: t, h => by
    have ih := Wf.tab h.2.2
    show TabOk (app (run t) r)
    rcases h.2.1 with q | q | q | q | q | q | q
    · rw [app1 q.1]; exact ih.push ⟨0, by omega, rfl⟩ (.inr ⟨_, q.2.2.1, rfl⟩) _ _
    · rw [app2 q.1]; exact ih.push ⟨r.2.1, by omega, rfl⟩ (.inr ⟨_, q.2.2.1, rfl⟩) _ _
    · rw [app3 q.1]; exact ih.well _ (.inr ⟨_, q.2.2.1, rfl⟩) _ _
    · rw [app4 q.1]; exact ih.well _ (.inl rfl) _ _
    · exact absurd q.1 h.1
    · rw [app6 q.1]
      refine ih.push ⟨r.2.1, by omega, rfl⟩ ?_ _ _
      by_cases e : r.2.2.1 = 255
      · rw [if_pos e]; exact .inl rfl
      · rw [if_neg e]; exact .inr ⟨_, by omega, rfl⟩
    · rw [app7 q.1]; exact fun k h1 h2 => ih k h1 h2
def keptW (t : Tab) (k : Nat) : Nat := if t.2.2.1 k = -1 then 255 else (t.2.2.1 k).toNatClampNeg
def keptS (t : Tab) (k : Nat) : Nat := (t.2.1 k).toNatClampNeg
def kept (t : Tab) (k : Nat) : Rec := (6, keptS t k, keptW t k, t.2.2.2.1 k)
def kepts (t : Tab) : Nat → List Rec
  | 0 => [(7, 0, 0, t.2.2.2.2)]
  | k + 1 => kept t (k + 1) :: kepts t k
theorem kept_s {t : Tab} (h : TabOk t) (hn : t.1 ≤ 120) {k : Nat} (h1 : 1 ≤ k) (h2 : k ≤ t.1) : keptS t k < k ∧ nI (keptS t k) = t.2.1 k := by
  obtain ⟨⟨s, hs, e⟩, -⟩ := h k h1 h2
  unfold keptS
  rw [e, nI_clamp (by omega)]
  exact ⟨hs, rfl⟩
theorem kept_w {t : Tab} (h : TabOk t) {k : Nat} (h1 : 1 ≤ k) (h2 : k ≤ t.1) : (keptW t k < 48 ∨ keptW t k = 255) ∧ (if keptW t k = 255 then (-1 : Int32) else nI (keptW t k)) = t.2.2.1 k ∧ (t.2.2.1 k ≠ -1 → nI (keptW t k) = t.2.2.1 k) ∧ (t.2.2.1 k = -1 → keptW t k = 255) := by
  obtain ⟨-, e | ⟨w, hw, e⟩⟩ := h k h1 h2
  · have : keptW t k = 255 := if_pos e
    rw [this, e]
    exact ⟨.inr rfl, rfl, fun h => absurd rfl h, fun _ => rfl⟩
  · have hne : t.2.2.1 k ≠ -1 := by rw [e]; exact nI_nm1 (by omega)
    have : keptW t k = w := by unfold keptW; rw [if_neg hne, e, nI_clamp (by omega)]
    rw [this, e]
    exact ⟨.inl hw, if_neg (by omega), fun _ => rfl, fun h => absurd h (nI_nm1 (by omega))⟩
theorem svs_kepts (t : Tab) : ∀ k, svs (kepts t k) = kepts t k
  | 0 => rfl
  | k + 1 => by
    show svs (kept t (k + 1) :: kepts t k) = kept t (k + 1) :: kepts t k
    rw [svs_n5 (show (kept t (k + 1)).1 ≠ 5 by show (6 : Nat) ≠ 5; decide), svs_kepts t k]
theorem uc_kepts (t : Tab) : ∀ k, uc (kepts t k) = 0
  | 0 => rfl
  | k + 1 => by
    show uc (kept t (k + 1) :: kepts t k) = 0
    rw [uc_not (show ¬ (kept t (k + 1)).1 ≤ 4 by show ¬ (6 : Nat) ≤ 4; decide)]
    exact uc_kepts t k
theorem endR_kepts (t : Tab) : ∀ k, endR (kepts t k) = 25 + 19 * k
  | 0 => rfl
  | k + 1 => by
    show endR (kepts t k) + lenN 6 = 25 + 19 * (k + 1)
    rw [endR_kepts t k, show lenN 6 = 19 from rfl]
    omega
def Agr (t t' : Tab) (k : Nat) : Prop := t'.1 = k ∧ t'.2.2.2.2 = t.2.2.2.2 ∧ ∀ j, 1 ≤ j → j ≤ k → t'.2.1 j = t.2.1 j ∧ t'.2.2.1 j = t.2.2.1 j ∧ t'.2.2.2.1 j = t.2.2.2.1 j
theorem run_kepts {t : Tab} (h : TabOk t) (hn : t.1 ≤ 120) : ∀ k, k ≤ t.1 → Agr t (run (kepts t k)) k
  | 0, _ => ⟨rfl, rfl, fun j h1 h2 => absurd h2 (by omega)⟩
  | k + 1, hk => by
    obtain ⟨e1, e2, e3⟩ := run_kepts h hn k (by omega)
    show Agr t (app (run (kepts t k)) (kept t (k + 1))) (k + 1)
    rw [app6 (show (kept t (k + 1)).1 = 6 from rfl), e1]
    refine ⟨rfl, e2, fun j h1 h2 => ?_⟩
    show upd (run (kepts t k)).2.1 (k + 1) (nI (keptS t (k + 1))) j = t.2.1 j ∧ upd (run (kepts t k)).2.2.1 (k + 1) (if keptW t (k + 1) = 255 then (-1 : Int32) else nI (keptW t (k + 1))) j = t.2.2.1 j ∧ vp_updL (run (kepts t k)).2.2.2.1 (k + 1) (t.2.2.2.1 (k + 1)) j = t.2.2.2.1 j
    by_cases e : j = k + 1
    · subst e
      rw [pk_us, pk_us, pk_uLs]
      exact ⟨(kept_s h hn h1 hk).2, (kept_w h h1 hk).2.1, rfl⟩
    · rw [pk_un e, pk_un e, pk_uLn e]
      exact e3 j h1 (by omega)
theorem sum_kepts {t : Tab} (h : TabOk t) (hn : t.1 ≤ 120) {k : Nat} (hk : k ≤ t.1) : sumT (run (kepts t k)) = fb_si (fun j => (t.2.2.2.1 (j + 1)).toInt) k + t.2.2.2.2.toInt := by
  obtain ⟨e1, e2, e3⟩ := run_kepts h hn k hk
  unfold sumT
  rw [e1, e2, fb_si_cong (g := fun j => (t.2.2.2.1 (j + 1)).toInt) (fun j hj => by show ((run (kepts t k)).2.2.2.1 (j + 1)).toInt = _; rw [(e3 (j + 1) (by omega) (by omega)).2.2])]
theorem val_kepts {t : Tab} (h : TabOk t) (hn : t.1 ≤ 120) (hs : SumOk t) : ∀ k, k ≤ t.1 → Val (kepts t k)
  | 0, _ => ⟨.inr (.inr (.inr (.inr (.inr (.inr ⟨rfl, rfl, rfl, rfl, rfl, hs.2.1⟩))))), trivial⟩
  | k + 1, hk => by
    have hw := kept_w h (k := k + 1) (by omega) hk
    have hS := kept_s h hn (k := k + 1) (by omega) hk
    have hr := run_kepts h hn k (by omega)
    have hsum := sum_kepts h hn (k := k) (by omega)
    have hle : fb_si (fun j => (t.2.2.2.1 (j + 1)).toInt) k + (t.2.2.2.1 (k + 1)).toInt ≤ fb_si (fun j => (t.2.2.2.1 (j + 1)).toInt) t.1 := si_le (f := fun j => (t.2.2.2.1 (j + 1)).toInt) (i := k + 1) (n := t.1) (fun j hj => hs.1 (j + 1) (by omega) (by omega)) hk
    have htot : fb_si (fun j => (t.2.2.2.1 (j + 1)).toInt) t.1 + t.2.2.2.2.toInt < 9223372036854775808 := hs.2.2
    refine ⟨?_, val_kepts h hn hs k (by omega)⟩
    rw [svs_kepts, uc_kepts]
    refine .inr (.inr (.inr (.inr (.inr (.inl ⟨rfl, ?_, hw.1, ?_, rfl, hs.1 (k + 1) (by omega) hk, ?_⟩)))))
    · show keptS t (k + 1) ≤ (run (kepts t k)).1
      rw [hr.1]
      omega
    · rw [hr.1]
      omega
    · rw [hsum]
      show _ + (t.2.2.2.1 (k + 1)).toInt < _
      omega
theorem PR_kepts {qs : Nat → Int32} {ql : Nat → Int64} {qt qw : Nat → Int32} {qv : Nat → Int64} (t : Tab) : ∀ k, PR qs ql qt qw qv (kepts t k)
  | 0 => ⟨fun h => absurd h (by show ¬ (7 : Nat) ≤ 4; decide), trivial⟩
  | k + 1 => ⟨fun h => absurd h (by show ¬ (6 : Nat) ≤ 4; decide), PR_kepts t k⟩
theorem CTb_kepts {t : Tab} (h : TabOk t) (hn : t.1 ≤ 120) {pa we vo} (hT : TA pa we vo t) (qs : Nat → Int32) (ql : Nat → Int64) (qt qw : Nat → Int32) (qv : Nat → Int64) : CTb (kepts t t.1) pa we vo (nI t.1) t.2.2.2.2 qs ql qt qw qv 0 := by
  obtain ⟨e1, e2, e3⟩ := run_kepts h hn t.1 (Nat.le_refl _)
  unfold CTb
  rw [svs_kepts, uc_kepts]
  refine ⟨by rw [e1], e2.symm, rfl, fun k h1 h2 => ?_, PR_kepts t _⟩
  rw [e1] at h2
  obtain ⟨a, b, c⟩ := hT k h1 h2
  obtain ⟨a', b', c'⟩ := e3 k h1 h2
  exact ⟨a.trans a'.symm, b.trans b'.symm, c.trans c'.symm⟩
