/-! 56.query: what both sides ask of their tables -/
theorem i32_cases (p : Int32) : p ≤ 0 ∨ ∃ k, 1 ≤ k ∧ k < 2 ^ 31 ∧ p = nI k := by
  by_cases h : p < 0
  · left
    rw [Int32.lt_iff_toInt_lt] at h
    rw [Int32.le_iff_toInt_le]
    omega
  · obtain ⟨k, hk, rfl⟩ := nI_of h
    by_cases h0 : k = 0
    · left; rw [h0]; decide
    · exact .inr ⟨k, by omega, hk, rfl⟩
theorem lt1_of_le0 {p : Int32} (h : p ≤ 0) : p < 1 := by
  rw [Int32.le_iff_toInt_le] at h
  rw [Int32.lt_iff_toInt_lt]
  have h1 : (1 : Int32).toInt = 1 := by decide
  have h0 : (0 : Int32).toInt = 0 := by decide
  omega
def lvB (t : Tab) (p : Int32) : Bool := if p ≤ 0 then false else decide (p.toNatClampNeg ≤ t.1) && decide (t.2.2.1 p.toNatClampNeg ≠ -1)
theorem lvB_neg (t : Tab) {p : Int32} (h : p ≤ 0) : lvB t p = false := if_pos h
theorem lvB_nat (t : Tab) {k : Nat} (h1 : 1 ≤ k) (hk : k < 2 ^ 31) : lvB t (nI k) = (decide (k ≤ t.1) && decide (t.2.2.1 k ≠ -1)) := by
  unfold lvB
  rw [if_neg (nI_nle h1 hk), nI_clamp hk]
theorem isSample_neg (sa : Int32) {p : Int32} (h : p ≤ 0) : fX7_isSample sa p = some false := by
  unfold fX7_isSample
  rw [if_pos (lt1_of_le0 h)]
theorem clive {t : Tab} (hn : t.1 ≤ 120) {pa we vo} (hT : TA pa we vo t) (p : Int32) : fX7_isLive we (nI t.1) p = some (lvB t p) := by
  unfold fX7_isLive
  rcases i32_cases p with h | ⟨k, h1, hk, rfl⟩
  · unfold fX7_wellOf
    rw [isSample_neg _ h, Option.bind_some, if_pos (show zb false = 0 from rfl), Option.bind_some, if_pos rfl, lvB_neg t h]
  · rw [wellOf_ok hn hk, Option.bind_some, lvB_nat t h1 hk]
    by_cases h2 : k ≤ t.1
    · rw [if_pos (show 1 ≤ k ∧ k ≤ t.1 from ⟨h1, h2⟩), (hT k h1 h2).2.1, decide_eq_true h2, Bool.true_and]
      by_cases h3 : t.2.2.1 k = -1
      · rw [if_pos h3]; simp [h3]
      · rw [if_neg h3]; simp [h3]
    · rw [if_neg (show ¬ (1 ≤ k ∧ k ≤ t.1) from fun h => h2 h.2), if_pos rfl]
      simp [h2]
theorem clive_any (we : Nat → Int32) {n : Nat} (hn : n ≤ 120) (p : Int32) : ∃ b, fX7_isLive we (nI n) p = some b := by
  unfold fX7_isLive
  rcases i32_cases p with h | ⟨k, h1, hk, rfl⟩
  · unfold fX7_wellOf
    rw [isSample_neg _ h, Option.bind_some, if_pos (show zb false = 0 from rfl), Option.bind_some]
    split <;> exact ⟨_, rfl⟩
  · rw [wellOf_ok hn hk, Option.bind_some]
    generalize (if 1 ≤ k ∧ k ≤ n then we k else -1) = z
    split <;> exact ⟨_, rfl⟩
theorem mlive {t : Tab} (hn : t.1 ≤ 120) {ms ml mpa mwe mli mvo} (hM : MT t ms ml mpa mwe mli mvo) (p : Int32) : fX9_isLive ms mli p = some (lvB t p) := by
  obtain ⟨rfl, _, hT⟩ := hM
  unfold fX9_isLive
  rcases i32_cases p with h | ⟨k, h1, hk, rfl⟩
  · rw [if_pos h, lvB_neg t h]
  · rw [if_neg (nI_nle h1 hk), lvB_nat t h1 hk]
    by_cases h2 : k ≤ t.1
    · rw [if_neg (nI_nlt h2 (by omega)), if_pos (ib_nI (by omega) (by omega)), nI_clamp hk, (hT k h1 h2).2.2.1, decide_eq_true h2, Bool.true_and]
      by_cases h3 : t.2.2.1 k = -1
      · rw [if_pos h3, if_pos rfl]; simp [h3]
      · rw [if_neg h3, if_neg (by decide)]; simp [h3]
    · rw [if_pos (nI_lt (by omega) hk)]
      simp [h2]
theorem lvB_true {t : Tab} {p : Int32} (h : lvB t p = true) : ∃ k, 1 ≤ k ∧ k ≤ t.1 ∧ p = nI k ∧ t.2.2.1 k ≠ -1 := by
  rcases i32_cases p with g | ⟨k, h1, hk, rfl⟩
  · rw [lvB_neg t g] at h; cases h
  · rw [lvB_nat t h1 hk, Bool.and_eq_true] at h
    exact ⟨k, h1, of_decide_eq_true h.1, rfl, of_decide_eq_true h.2⟩
def wlB (p : Int32) : Bool := if p < 0 then false else if (48 : Int32) ≤ p then false else true
theorem cwell (p : Int32) : fX8_isWell p = some (wlB p) := by
  unfold fX8_isWell wlB
  split
  · rfl
  · split <;> rfl
theorem mwell (p : Int32) : fX9_isWell p = some (wlB p) := by
  unfold fX9_isWell wlB
  split
  · rfl
  · split <;> rfl
theorem wlB_true {p : Int32} (h : wlB p = true) : ∃ w, w < 48 ∧ p = nI w := by
  unfold wlB at h
  by_cases h1 : p < 0
  · rw [if_pos h1] at h; cases h
  · obtain ⟨k, hk, rfl⟩ := nI_of h1
    rw [if_neg h1] at h
    by_cases h2 : (48 : Int32) ≤ nI k
    · rw [if_pos h2] at h; cases h
    · refine ⟨k, ?_, rfl⟩
      apply Decidable.byContradiction
      intro h3
      exact h2 (nI_le (a := 48) (b := k) (by omega) hk)
theorem occ2 {t : Tab} (hn : t.1 ≤ 120) {pa we vo} (hT : TA pa we vo t) {ms ml mpa mwe mli mvo} (hM : MT t ms ml mpa mwe mli mvo) {w : Nat} (hw : w < 48) (hW : wlB (nI w) = true) : ∀ (d k f : Nat), 1 ≤ k → k + d = t.1 + 1 → d < f → ∃ x, fX7_sampleIn_2 we (nI t.1) (nI w) f (nI k) = some x ∧ fX9_liveIn_2 ms mwe mli (nI w) f (nI k) = some x ∧ (x = -1 ∨ ∃ j, j ≤ 120 ∧ x = nI j)
  | 0, k, f + 1, h1, hk, _ => by
    obtain ⟨rfl, _, hMT⟩ := hM
    refine ⟨-1, ?_, ?_, .inl rfl⟩
    · unfold fX7_sampleIn_2
      rw [cwell, Option.bind_some, hW, if_neg (show ¬ zb true = 0 by decide), if_pos (nI_lt (by omega) (by omega))]
    · unfold fX9_liveIn_2
      rw [if_pos (nI_lt (by omega) (by omega))]
  | d + 1, k, f + 1, h1, hk, hf => by
    obtain ⟨x, i1, i2, i3⟩ := occ2 hn hT hM hw hW d (k + 1) f (by omega) (by omega) (by omega)
    obtain ⟨rfl, _, hMT⟩ := hM
    obtain ⟨a1, a2, a3⟩ := hT k h1 (by omega)
    obtain ⟨m1, m2, m3, m4⟩ := hMT k h1 (by omega)
    unfold fX7_sampleIn_2 fX9_liveIn_2
    rw [cwell, Option.bind_some, hW, if_neg (show ¬ zb true = 0 by decide), if_neg (nI_nlt (by omega) (by omega)), wellOf_ok hn (by omega), Option.bind_some, if_pos (show 1 ≤ k ∧ k ≤ t.1 from ⟨h1, by omega⟩), a2, if_neg (nI_nlt (by omega) (by omega)), if_pos (ib_nI (by omega) (by omega)), nI_clamp (by omega), m3, nI_1]
    by_cases h3 : t.2.2.1 k = -1
    · rw [h3, if_neg (fun e => nI_nm1 (by omega) e.symm), if_pos (show (if (-1 : Int32) = -1 then (0 : Int32) else 1) = 0 from rfl)]
      exact ⟨x, i1, i2, i3⟩
    · rw [if_neg h3, if_neg (show ¬ (1 : Int32) = 0 by decide), m4 h3]
      by_cases h4 : t.2.2.1 k = nI w
      · rw [if_pos h4, if_pos h4]
        exact ⟨nI k, rfl, rfl, .inr ⟨k, by omega, rfl⟩⟩
      · rw [if_neg h4, if_neg h4]
        exact ⟨x, i1, i2, i3⟩
theorem occ_ok {t : Tab} (hn : t.1 ≤ 120) {pa we vo} (hT : TA pa we vo t) {ms ml mpa mwe mli mvo} (hM : MT t ms ml mpa mwe mli mvo) {p : Int32} (hW : wlB p = true) : ∃ x, fX7_sampleIn we (nI t.1) p = some x ∧ fX9_liveIn ms mwe mli p = some x := by
  obtain ⟨w, hw, rfl⟩ := wlB_true hW
  obtain ⟨x, h1, h2, _⟩ := occ2 hn hT hM hw hW t.1 1 FU (Nat.le_refl 1) (by omega) (by show t.1 < 4096; omega)
  exact ⟨x, h1, h2⟩
theorem sampleIn_no (we : Nat → Int32) (sa p : Int32) (hW : wlB p = false) : fX7_sampleIn we sa p = some (-1 : Int32) := by
  unfold fX7_sampleIn
  show fX7_sampleIn_2 we sa p (4095 + 1) 1 = _
  unfold fX7_sampleIn_2
  rw [cwell, Option.bind_some, hW, if_pos (show zb false = 0 from rfl)]
/-- volumes are not negative, and their sum fits -/
def SumOk (t : Tab) : Prop := (∀ k, 1 ≤ k → k ≤ t.1 → 0 ≤ (t.2.2.2.1 k).toInt) ∧ 0 ≤ t.2.2.2.2.toInt ∧ sumT t < 9223372036854775808
theorem si_nonneg {f : Nat → Int} : ∀ {n : Nat}, (∀ k, k < n → 0 ≤ f k) → 0 ≤ fb_si f n
  | 0, _ => Int.le_refl 0
  | n + 1, h => by
    have h1 := si_nonneg (fun k hk => h k (Nat.lt_succ_of_lt hk)) (n := n)
    have h2 := h n (Nat.lt_succ_self n)
    rw [fb_si_succ]
    omega
theorem si_ge {f : Nat → Int} {i : Nat} : ∀ {n : Nat}, (∀ k, k < n → 0 ≤ f k) → i < n → f i ≤ fb_si f n
  | 0, _, h => absurd h (Nat.not_lt_zero i)
  | n + 1, h, hi => by
    have h0 := si_nonneg (fun k hk => h k (Nat.lt_succ_of_lt hk)) (n := n)
    have h2 := h n (Nat.lt_succ_self n)
    rw [fb_si_succ]
    by_cases e : i = n
    · subst e; omega
    · have := si_ge (fun k hk => h k (Nat.lt_succ_of_lt hk)) (n := n) (i := i) (by omega)
      omega
theorem si_le {f : Nat → Int} {i : Nat} : ∀ {n : Nat}, (∀ k, k < n → 0 ≤ f k) → i ≤ n → fb_si f i ≤ fb_si f n
  | 0, _, h => by rw [show i = 0 by omega]; exact Int.le_refl _
  | n + 1, h, hi => by
    by_cases e : i = n + 1
    · subst e; exact Int.le_refl _
    · have h1 := si_le (fun k hk => h k (Nat.lt_succ_of_lt hk)) (n := n) (i := i) (by omega)
      have h2 := h n (Nat.lt_succ_self n)
      rw [fb_si_succ]
      omega
theorem add64 {a b : Int64} (h0 : 0 ≤ a.toInt + b.toInt) (h1 : a.toInt + b.toInt < 9223372036854775808) : (a + b).toInt = a.toInt + b.toInt := by
  rw [Int64.toInt_add, Int.bmod_def]
  split <;> omega
theorem sub64 {a b : Int64} (h0 : 0 ≤ a.toInt - b.toInt) (h1 : a.toInt - b.toInt < 9223372036854775808) : (a - b).toInt = a.toInt - b.toInt := by
  rw [Int64.toInt_sub, Int.bmod_def]
  split <;> omega
theorem updL_int (f : Nat → Int64) (s : Nat) (x : Int64) (hs : 1 ≤ s) : (fun k => (vp_updL f s x (k + 1)).toInt) = fun k => if k = s - 1 then x.toInt else (f (k + 1)).toInt := by
  funext k
  by_cases e : k + 1 = s
  · rw [e, pk_uLs, if_pos (by omega)]
  · rw [pk_uLn e, if_neg (by omega)]
theorem sum_push (t : Tab) (p w : Nat → Int32) (x : Int64) (lo : Int64) (vo : Nat → Int64) : sumT (t.1 + 1, p, w, vp_updL vo (t.1 + 1) x, lo) = sumT (t.1, p, w, vo, lo) + x.toInt := by
  show fb_si (fun k => (vp_updL vo (t.1 + 1) x (k + 1)).toInt) (t.1 + 1) + lo.toInt = fb_si (fun k => (vo (k + 1)).toInt) t.1 + lo.toInt + x.toInt
  rw [updL_int _ _ _ (by omega), fb_si_succ, show t.1 + 1 - 1 = t.1 from rfl, if_pos rfl, fb_si_out _ _ (Nat.le_refl _)]
  omega
theorem sum_vol (n : Nat) (p w : Nat → Int32) (s : Nat) (h1 : 1 ≤ s) (h2 : s ≤ n) (x : Int64) (lo : Int64) (vo : Nat → Int64) : sumT (n, p, w, vp_updL vo s x, lo) = sumT (n, p, w, vo, lo) - (vo s).toInt + x.toInt := by
  show fb_si (fun k => (vp_updL vo s x (k + 1)).toInt) n + lo.toInt = fb_si (fun k => (vo (k + 1)).toInt) n + lo.toInt - (vo s).toInt + x.toInt
  rw [updL_int _ _ _ h1, fb_si_upd _ _ (show s - 1 < n by omega), show s - 1 + 1 = s by omega]
  omega
theorem SumOk.si {t : Tab} (h : SumOk t) : 0 ≤ fb_si (fun k => (t.2.2.2.1 (k + 1)).toInt) t.1 := si_nonneg (fun k hk => h.1 (k + 1) (by omega) (by omega))
theorem SumOk.app {t : Tab} {u : Nat} {r : Rec} (h : SumOk t) (hr : okR t u r) (h5 : r.1 ≠ 5) : SumOk (app t r) := by
  obtain ⟨hp, hl, hs⟩ := id h
  rcases hr with q | q | q | q | q | q | q
  · rw [app1 q.1]
    refine ⟨fun k g1 g2 => ?_, hl, ?_⟩
    · show 0 ≤ (vp_updL t.2.2.2.1 (t.1 + 1) r.2.2.2 k).toInt
      by_cases e : k = t.1 + 1
      · rw [e, pk_uLs]; omega
      · rw [pk_uLn e]; exact hp k g1 (by have g2 : k ≤ t.1 + 1 := g2; omega)
    · rw [sum_push]
      exact q.2.2.2.2.2
  · have hv := hp r.2.1 q.2.1.1 q.2.1.2
    have hlt := (t.2.2.2.1 r.2.1).toInt_lt
    have hsub : (t.2.2.2.1 r.2.1 - r.2.2.2).toInt = (t.2.2.2.1 r.2.1).toInt - r.2.2.2.toInt := sub64 (by omega) (by omega)
    rw [app2 q.1]
    refine ⟨fun k g1 g2 => ?_, hl, ?_⟩
    · show 0 ≤ (vp_updL (vp_updL t.2.2.2.1 r.2.1 (t.2.2.2.1 r.2.1 - r.2.2.2)) (t.1 + 1) r.2.2.2 k).toInt
      by_cases e : k = t.1 + 1
      · rw [e, pk_uLs]; omega
      · rw [pk_uLn e]
        by_cases e2 : k = r.2.1
        · rw [e2, pk_uLs]; omega
        · rw [pk_uLn e2]; exact hp k g1 (by have g2 : k ≤ t.1 + 1 := g2; omega)
    · rw [sum_push, sum_vol _ _ _ _ q.2.1.1 q.2.1.2]
      have : sumT (t.1, upd t.2.1 (t.1 + 1) (nI r.2.1), upd t.2.2.1 (t.1 + 1) (nI r.2.2.1), t.2.2.2.1, t.2.2.2.2) = sumT t := rfl
      omega
  · rw [app3 q.1]
    exact ⟨hp, hl, hs⟩
  · have hv := hp r.2.1 q.2.1.1 q.2.1.2
    have hge := si_ge (f := fun k => (t.2.2.2.1 (k + 1)).toInt) (n := t.1) (i := r.2.1 - 1) (fun k hk => hp (k + 1) (by omega) (by omega)) (by omega)
    have hge : (t.2.2.2.1 (r.2.1 - 1 + 1)).toInt ≤ _ := hge
    rw [show r.2.1 - 1 + 1 = r.2.1 by omega] at hge
    have hsd : sumT t = fb_si (fun k => (t.2.2.2.1 (k + 1)).toInt) t.1 + t.2.2.2.2.toInt := rfl
    have hadd : (t.2.2.2.2 + t.2.2.2.1 r.2.1).toInt = t.2.2.2.2.toInt + (t.2.2.2.1 r.2.1).toInt := add64 (by omega) (by omega)
    rw [app4 q.1]
    refine ⟨fun k g1 g2 => ?_, by show 0 ≤ (t.2.2.2.2 + t.2.2.2.1 r.2.1).toInt; omega, ?_⟩
    · show 0 ≤ (vp_updL t.2.2.2.1 r.2.1 0 k).toInt
      by_cases e2 : k = r.2.1
      · rw [e2, pk_uLs]; decide
      · rw [pk_uLn e2]; exact hp k g1 g2
    · rw [sum_vol _ _ _ _ q.2.1.1 q.2.1.2]
      have : sumT (t.1, t.2.1, upd t.2.2.1 r.2.1 (-1), t.2.2.2.1, t.2.2.2.2 + t.2.2.2.1 r.2.1) = fb_si (fun k => (t.2.2.2.1 (k + 1)).toInt) t.1 + (t.2.2.2.2 + t.2.2.2.1 r.2.1).toInt := rfl
      have h0 : (0 : Int64).toInt = 0 := by decide
      omega
  · exact absurd q.1 h5
  · rw [app6 q.1]
    refine ⟨fun k g1 g2 => ?_, hl, ?_⟩
    · show 0 ≤ (vp_updL t.2.2.2.1 (t.1 + 1) r.2.2.2 k).toInt
      by_cases e : k = t.1 + 1
      · rw [e, pk_uLs]; omega
      · rw [pk_uLn e]; exact hp k g1 (by have g2 : k ≤ t.1 + 1 := g2; omega)
    · rw [sum_push]
      exact q.2.2.2.2.2.2
  · rw [app7 q.1]
    refine ⟨fun k g1 g2 => hp k g1 g2, q.2.2.2.2.2, ?_⟩
    show fb_si (fun k => (t.2.2.2.1 (k + 1)).toInt) t.1 + r.2.2.2.toInt < _
    rw [q.2.1]
    have := r.2.2.2.toInt_lt
    show (0 : Int) + r.2.2.2.toInt < _
    omega
theorem Wf.sum : ∀ {l : List Rec}, Wf l → SumOk (run l)
  | [], _ => ⟨fun k h1 h2 => absurd h2 (by show ¬ k ≤ 0; omega), by decide, by decide⟩
  | r :: t, h => (Wf.sum h.2.2).app h.2.1 h.1
theorem clv4 {n : Nat} (hn : n ≤ 120) {vo : Nat → Int64} : ∀ (d k f : Nat) (x : Int64), 1 ≤ k → k + d = n + 1 → d < f → ∃ y, fX7_liveVolume_4 vo (nI n) f x (nI k) = some y ∧ ((∀ j, 1 ≤ j → j ≤ n → 0 ≤ (vo j).toInt) → fb_si (fun j => (vo (j + 1)).toInt) n < 9223372036854775808 → x.toInt = fb_si (fun j => (vo (j + 1)).toInt) (k - 1) → y.toInt = fb_si (fun j => (vo (j + 1)).toInt) n)
  | 0, k, f + 1, x, h1, hk, _ => by
    refine ⟨x, ?_, fun _ _ h => by rw [h, show k - 1 = n by omega]⟩
    unfold fX7_liveVolume_4
    rw [if_pos (nI_lt (by omega) (by omega))]
  | d + 1, k, f + 1, x, h1, hk, hf => by
    obtain ⟨y, hy, hs⟩ := clv4 hn (vo := vo) d (k + 1) f (x + vo k) (by omega) (by omega) (by omega)
    refine ⟨y, ?_, fun hp hlt hx => hs hp hlt ?_⟩
    · unfold fX7_liveVolume_4
      rw [if_neg (nI_nlt (by omega) (by omega)), volumeOf_ok hn (by omega), Option.bind_some, if_pos (show 1 ≤ k ∧ k ≤ n from ⟨h1, by omega⟩), nI_1]
      exact hy
    · have e1 : fb_si (fun j => (vo (j + 1)).toInt) k = fb_si (fun j => (vo (j + 1)).toInt) (k - 1) + (vo k).toInt := by
        obtain ⟨k', rfl⟩ : ∃ k', k = k' + 1 := ⟨k - 1, by omega⟩
        rfl
      have e2 : fb_si (fun j => (vo (j + 1)).toInt) k ≤ fb_si (fun j => (vo (j + 1)).toInt) n := si_le (fun j hj => hp (j + 1) (by omega) (by omega)) (by omega)
      have e3 : 0 ≤ fb_si (fun j => (vo (j + 1)).toInt) k := si_nonneg (fun j hj => hp (j + 1) (by omega) (by omega))
      show (x + vo k).toInt = fb_si (fun j => (vo (j + 1)).toInt) k
      rw [add64 (by omega) (by omega), hx, e1]
theorem mlv4 {n : Nat} (hn : n ≤ 120) {vo mvo : Nat → Int64} (h : ∀ k, 1 ≤ k → k ≤ n → mvo k = vo k) : ∀ (d k f : Nat) (x : Int64), 1 ≤ k → k + d = n + 1 → fX9_liveVolume_4 (nI n) mvo f x (nI k) = fX7_liveVolume_4 vo (nI n) f x (nI k)
  | _, _, 0, _, _, _ => rfl
  | 0, k, f + 1, x, h1, hk => by
    unfold fX7_liveVolume_4 fX9_liveVolume_4
    rw [if_pos (nI_lt (by omega) (by omega)), if_pos (nI_lt (by omega) (by omega))]
  | d + 1, k, f + 1, x, h1, hk => by
    unfold fX7_liveVolume_4 fX9_liveVolume_4
    rw [if_neg (nI_nlt (by omega) (by omega)), if_neg (nI_nlt (by omega) (by omega)), volumeOf_ok hn (by omega), Option.bind_some, if_pos (show 1 ≤ k ∧ k ≤ n from ⟨h1, by omega⟩), if_pos (ib_nI (by omega) (by omega)), nI_clamp (by omega), nI_1, h k h1 (by omega)]
    exact mlv4 hn h d (k + 1) f _ (by omega) (by omega)
theorem clv_any {n : Nat} (hn : n ≤ 120) (vo : Nat → Int64) : ∃ x, fX7_liveVolume vo (nI n) = some x := by
  obtain ⟨y, hy, _⟩ := clv4 hn (vo := vo) n 1 FU (0 : Int64) (Nat.le_refl 1) (by omega) (by show n < 4096; omega)
  exact ⟨y, hy⟩
theorem lv_ok {t : Tab} (hn : t.1 ≤ 120) (hs : SumOk t) {pa we vo} (hT : TA pa we vo t) {ms ml mpa mwe mli mvo} (hM : MT t ms ml mpa mwe mli mvo) : ∃ x, fX7_liveVolume vo (nI t.1) = some x ∧ fX9_liveVolume ms mvo = some x ∧ 0 ≤ x.toInt ∧ x.toInt + t.2.2.2.2.toInt = sumT t := by
  obtain ⟨rfl, _, hMT⟩ := hM
  obtain ⟨y, hy, hv⟩ := clv4 hn (vo := vo) t.1 1 FU (0 : Int64) (Nat.le_refl 1) (by omega) (by show t.1 < 4096; omega)
  have hc : fb_si (fun j => (vo (j + 1)).toInt) t.1 = fb_si (fun j => (t.2.2.2.1 (j + 1)).toInt) t.1 := fb_si_cong (fun k hk => by rw [(hT (k + 1) (by omega) (by omega)).2.2])
  have hsd : sumT t = fb_si (fun k => (t.2.2.2.1 (k + 1)).toInt) t.1 + t.2.2.2.2.toInt := rfl
  have h0 := hs.si
  have hl := hs.2.1
  have h3 := hs.2.2
  have hyv := hv (fun j h1 h2 => by rw [(hT j h1 h2).2.2]; exact hs.1 j h1 h2) (by omega) rfl
  refine ⟨y, hy, ?_, by omega, by omega⟩
  unfold fX9_liveVolume
  have := mlv4 hn (vo := vo) (mvo := mvo) (fun k h1 h2 => by rw [(hMT k h1 h2).2.1, (hT k h1 h2).2.2]) t.1 1 FU (0 : Int64) (Nat.le_refl 1) (by omega)
  exact this.trans hy
theorem room_c {nb e k : Nat} (hnb : nb ≤ 2048) (he : e ≤ nb) (h1 : 1 ≤ k) (h7 : k ≤ 7) : fX8_refusalOfRoom nb (nI e) (nI k) = some (if nb < e + lenN k then (-6 : Int32) else 0) := by
  have h8 := lenN_le h1 h7
  unfold fX8_refusalOfRoom fX3_hasRoomFor
  rw [length_ok h1 h7, Option.bind_some, pk_sub he]
  by_cases h : nb < e + lenN k
  · rw [if_pos (nI_lt (by omega) (by omega)), Option.bind_some, if_pos h, if_pos (show zb false = 0 from rfl)]
  · rw [if_neg (nI_nlt (by omega) (by omega)), Option.bind_some, if_neg h, if_neg (show ¬ zb true = 0 by decide)]
theorem room_m {nb e k : Nat} (hnb : nb ≤ 2048) (he : e ≤ nb) (h1 : 1 ≤ k) (h7 : k ≤ 7) : fX9_hasRoom (nI nb) (nI e) (nI k) = some (!decide (nb < e + lenN k)) := by
  have h8 := lenN_le h1 h7
  unfold fX9_hasRoom
  rw [lengthOf_ok h1 h7, Option.bind_some, nI_add]
  by_cases h : nb < e + lenN k
  · rw [if_pos (nI_lt h (by omega))]; simp [h]
  · rw [if_neg (nI_nlt (by omega) (by omega))]; simp [h]
