/-! 51.mreads: the reference reads a bank -/
def endR : List Rec → Nat
  | [] => 9
  | r :: t => endR t + lenN r.1
def Seg (β : Nat → Nat) : List Rec → Prop
  | [] => True
  | r :: t => recAt β (endR t) r ∧ Seg β t
def svp : List Rec → List Nat
  | [] => []
  | r :: t => if r.1 = 5 then (svp t).tail else endR t :: svp t
def PL (mpl : Nat → Int32) : List Nat → Prop
  | [] => True
  | p :: t => mpl t.length = nI p ∧ PL mpl t
def At2 (β : Nat → Nat) (nb : Nat) : List Rec → List Nat → Prop
  | [], [] => True
  | r :: t, p :: q => (recAt β p r ∧ p + lenN r.1 ≤ nb) ∧ At2 β nb t q
  | _, _ => False
theorem At2.len {β : Nat → Nat} {nb : Nat} : ∀ {l : List Rec} {P : List Nat}, At2 β nb l P → P.length = l.length
  | [], [], _ => rfl
  | r :: t, p :: q, h => by
    show q.length + 1 = t.length + 1
    rw [At2.len h.2]
theorem At2.tail {β : Nat → Nat} {nb : Nat} : ∀ {l : List Rec} {P : List Nat}, At2 β nb l P → At2 β nb l.tail P.tail
  | [], [], _ => trivial
  | r :: t, p :: q, h => h.2
theorem PL.tail {mpl : Nat → Int32} : ∀ {P : List Nat}, PL mpl P → PL mpl P.tail
  | [], _ => trivial
  | p :: q, h => h.2
theorem PL_cong {mpl mpl' : Nat → Int32} : ∀ (P : List Nat), (∀ i, i < P.length → mpl' i = mpl i) → PL mpl P → PL mpl' P
  | [], _, _ => trivial
  | p :: q, h, hp => ⟨by rw [h q.length (by show q.length < q.length + 1; omega)]; exact hp.1, PL_cong q (fun i hi => h i (by show i < q.length + 1; omega)) hp.2⟩
theorem At2_suf {β : Nat → Nat} {nb : Nat} {mpl : Nat → Int32} : ∀ (a : List Rec) {b : List Rec} {P : List Nat}, At2 β nb (a ++ b) P → PL mpl P → ∃ Q, At2 β nb b Q ∧ PL mpl Q
  | [], b, P, h, hp => ⟨P, h, hp⟩
  | r :: a, b, [], h, _ => h.elim
  | r :: a, b, p :: q, h, hp => At2_suf a h.2 hp.2
theorem Wf_suf : ∀ (a : List Rec) {b : List Rec}, Wf (a ++ b) → Wf b
  | [], _, h => h
  | _ :: a, _, h => Wf_suf a h.2.2
theorem Val_suf : ∀ (a : List Rec) {b : List Rec}, Val (a ++ b) → Val b
  | [], _, h => h
  | _ :: a, _, h => Val_suf a h.2
theorem Seg_suf {β : Nat → Nat} : ∀ (a : List Rec) {b : List Rec}, Seg β (a ++ b) → Seg β b
  | [], _, h => h
  | _ :: a, _, h => Seg_suf a h.2
theorem endR_suf : ∀ (a : List Rec) (b : List Rec), endR b ≤ endR (a ++ b)
  | [], _ => Nat.le_refl _
  | r :: a, b => by
    have := endR_suf a b
    show endR b ≤ endR (a ++ b) + lenN r.1
    omega
theorem endR_9 : ∀ (l : List Rec), 9 ≤ endR l
  | [] => Nat.le_refl _
  | r :: t => by
    have := endR_9 t
    show 9 ≤ endR t + lenN r.1
    omega
theorem endR_len : ∀ (l : List Rec), 9 + 8 * l.length ≤ endR l
  | [] => Nat.le_refl _
  | r :: t => by
    have := endR_len t
    have h8 : 8 ≤ lenN r.1 := by unfold lenN; omega
    show 9 + 8 * (t.length + 1) ≤ endR t + lenN r.1
    omega
theorem svs_suf (x : Rec) (m t : List Rec) : (x :: m).reverse ++ t = m.reverse ++ (x :: t) := by simp
theorem svp_at {β : Nat → Nat} {nb : Nat} : ∀ (l : List Rec), Seg β l → endR l ≤ nb → At2 β nb (svs l) (svp l)
  | [], _, _ => trivial
  | r :: t, h, hn => by
    have hn' : endR t + lenN r.1 ≤ nb := hn
    have ih := svp_at (β := β) (nb := nb) t h.2 (by omega)
    by_cases e : r.1 = 5
    · rw [svs_5 e, show svp (r :: t) = (svp t).tail from if_pos e]
      exact ih.tail
    · rw [svs_n5 e, show svp (r :: t) = endR t :: svp t from if_neg e]
      exact ⟨⟨h.1, hn'⟩, ih⟩
theorem nI_m1 (n : Nat) : nI (n + 1) + (-1 : Int32) = nI n := by
  rw [nI_succ, Int32.add_assoc, show (1 : Int32) + (-1) = 0 from by decide, Int32.add_zero]
abbrev RTup : Type := Int32 × Int32 × Int32 × Int32 × Int64 × (Nat → Int32) × (Nat → Int32) × (Nat → Int32) × (Nat → Int64) × (Nat → Int32)
def RStep (T : Tab) (e n u : Int32) (o : Option RTup) : Prop := ∃ ms ml mpa mwe mli mvo mpl, o = some (e, n, ms, u, ml, mpa, mwe, mli, mvo, mpl) ∧ MT T ms ml mpa mwe mli mvo
theorem r139 {β : Nat → Nat} (hβ : ∀ i, β i < 256) {nb : Nat} (hnb : nb ≤ 2048) {mpl : Nat → Int32} (v1 e n u : Int32) : ∀ (m s : List Rec) (P : List Nat) (fuel : Nat) (ms : Int32) (ml : Int64) (mpa mwe mli : Nat → Int32) (mvo : Nat → Int64), At2 β nb (m.reverse ++ s) P → PL mpl P → Wf (m.reverse ++ s) → (m.reverse ++ s).length < 260 → m.length < fuel → MT (run s) ms ml mpa mwe mli mvo → RStep (run (m.reverse ++ s)) e n u (fX9_reads_1_139 nb (sbk β) fuel (nI (m.reverse ++ s).length) v1 (nI s.length) e n ms u ml mpa mwe mli mvo mpl)
  | [], s, P, fuel + 1, ms, ml, mpa, mwe, mli, mvo, _, _, _, hl, _, hM => by
    refine ⟨ms, ml, mpa, mwe, mli, mvo, mpl, ?_, hM⟩
    unfold fX9_reads_1_139
    have hl : s.length < 260 := hl
    exact if_pos (nI_le (Nat.le_refl _) (by omega))
  | x :: m, s, P, fuel + 1, ms, ml, mpa, mwe, mli, mvo, hA, hP, hW, hl, hf, hM => by
    rw [svs_suf] at hA hW hl ⊢
    have hf : m.length + 1 < fuel + 1 := hf
    obtain ⟨Q, hQ, hPQ⟩ := At2_suf m.reverse hA hP
    have hWx := Wf_suf m.reverse hW
    have hlen : (m.reverse ++ x :: s).length = m.length + (s.length + 1) := by simp
    match Q, hQ, hPQ with
    | p :: q, hQ, hPQ =>
      have hq := hQ.2.len
      have hp : mpl s.length = nI p := by rw [← hq]; exact hPQ.1
      obtain ⟨ms', ml', mpa', mwe', mli', mvo', ho, hM'⟩ := mapply hβ hnb hQ.1.1 hWx.2.1 (run_le s hWx.2.2) hWx.1 hQ.1.2 hM
      unfold fX9_reads_1_139
      rw [if_neg (nI_ge (by omega) (by omega)), if_pos (ib_nI (by omega) (by omega)), nI_clamp (by omega), hp, show nI p + (2 : Int32) = nI (p + 2) from nI_add p 2, ho, Option.bind_some]
      dsimp only
      rw [nI_1]
      exact r139 hβ hnb v1 e n u m (x :: s) P fuel ms' ml' mpa' mwe' mli' mvo' hA hP hW hl (by omega) hM'
theorem r32 {β : Nat → Nat} (hβ : ∀ i, β i < 256) {nb : Nat} (hnb : nb ≤ 2048) {us : Int32} {c2 : Nat → Int32} (hw : ∀ a, a ≤ nb → fX9_whole nb (nI nb) us (sbk β) c2 (nI a) = some (nI (wholeN β nb a))) (mpa mwe mli : Nat → Int32) (mvo : Nat → Int64) : ∀ (m t : List Rec) (fuel : Nat) (mpl : Nat → Int32), Seg β (m.reverse ++ t) → Val (m.reverse ++ t) → endR (m.reverse ++ t) ≤ nb → wholeN β nb (endR (m.reverse ++ t)) = 0 → PL mpl (svp t) → m.length < fuel → RStep (run (svs (m.reverse ++ t))) (nI (endR (m.reverse ++ t))) (nI (m.reverse ++ t).length) (nI (uc (svs (m.reverse ++ t)))) (fX9_reads_1_32 nb (nI nb) us (sbk β) c2 mpa mwe mli mvo fuel (nI (svs t).length) (nI (endR t)) (nI (wholeN β nb (endR t))) (nI t.length) (nI (uc (svs t))) mpl)
  | [], t, fuel + 1, mpl, hS, hV, he, h0, hP, _ => by
    have he : endR t ≤ nb := he
    have h0 : wholeN β nb (endR t) = 0 := h0
    have hl := endR_len t
    have hsl := svs_len t
    unfold fX9_reads_1_32
    rw [h0, if_pos (show nI 0 ≤ (0 : Int32) from by decide)]
    have h := r139 hβ hnb (mpl := mpl) (nI (endR t)) (nI (endR t)) (nI t.length) (nI (uc (svs t))) (svs t).reverse [] (svp t) FU (0 : Int32) (0 : Int64) mpa mwe mli mvo
    rw [List.reverse_reverse, List.append_nil] at h
    exact h (svp_at t hS he) hP (val_wf t hV) (by omega) (by rw [List.length_reverse]; show (svs t).length < 4096; omega) ⟨rfl, rfl, fun k h1 h2 => absurd h2 (by show ¬ k ≤ 0; omega)⟩
  | x :: m, t, fuel + 1, mpl, hS, hV, he, h0, hP, hf => by
    rw [svs_suf] at hS hV he h0 ⊢
    have hf : m.length + 1 < fuel + 1 := hf
    have hSx := Seg_suf m.reverse hS
    have hVx := Val_suf m.reverse hV
    have hex : endR t + lenN x.1 ≤ nb := Nat.le_trans (endR_suf m.reverse (x :: t)) he
    have hWt := val_wf t hVx.2
    have hfit := okR_fit hVx.1 (run_le _ hWt)
    have h8 := lenN_le hfit.1.1 hfit.1.2
    have h7 := hfit.1.2
    have hwl := rec_whole hSx.1 hfit hex
    have hl := endR_len t
    have hsl := svs_len t
    have hk : sbk β (endR t + 2) = nI x.1 := by
      have := rec_kind hSx.1 hfit
      rw [sbk_small (by rw [this]; omega), this]
    have ih := fun mpl' hP' => r32 hβ hnb hw mpa mwe mli mvo m (x :: t) fuel mpl' hS hV he h0 hP' (by omega)
    unfold fX9_reads_1_32
    rw [hwl, if_neg (nI_nle (by omega) (by omega)), show nI (endR t) + (2 : Int32) = nI (endR t + 2) from nI_add _ 2, if_pos (ib_nI (by omega) (by omega)), nI_clamp (by omega), hk, nI_add, hw _ hex, Option.bind_some, Option.bind_some, nI_1]
    by_cases e5 : x.1 = 5
    · rw [if_pos (by rw [e5]; rfl)]
      rcases hVx.1 with q | q | q | q | q | q | q
      · omega
      · omega
      · omega
      · omega
      · obtain ⟨r0, t0, hst, hr0⟩ := undo_top hWt q.2.1
        rw [hst, show (r0 :: t0).length = t0.length + 1 from rfl, nI_m1, uc_act hr0, nI_pred]
        have hx : svs (x :: t) = t0 := by rw [svs_5 e5, hst]; rfl
        have h := ih mpl (by rw [show svp (x :: t) = (svp t).tail from if_pos e5]; exact hP.tail)
        rw [hx] at h
        exact h
      · omega
      · omega
    · rw [if_neg (show ¬ nI x.1 = (5 : Int32) from fun h => e5 ((nI_eq (b := 5) (by omega) (by omega)).mp h)), if_pos (ib_nI (by omega) (by omega)), nI_clamp (by omega)]
      have hx : svs (x :: t) = x :: svs t := svs_n5 e5
      have hlp := (svp_at (nb := nb) t hSx.2 (by omega)).len
      have h := ih (upd mpl (svs t).length (nI (endR t))) (by
        rw [show svp (x :: t) = endR t :: svp t from if_neg e5]
        exact ⟨by rw [hlp, pk_us], PL_cong _ (fun i hi => pk_un (by omega)) hP⟩)
      rw [hx] at h
      by_cases e4 : x.1 ≤ 4
      · rw [if_neg (show ¬ (5 : Int32) ≤ nI x.1 from nI_ge (a := x.1) (b := 5) (by omega) (by omega)), nI_1, nI_1]
        rw [uc_act e4] at h
        exact h
      · rw [if_pos (show (5 : Int32) ≤ nI x.1 from nI_le (a := 5) (b := x.1) (by omega) (by omega)), nI_1, show nI (uc (svs t)) + (0 : Int32) = nI (uc (svs t)) from nI_add _ 0]
        rw [uc_not e4] at h
        exact h
theorem reads_1 {β : Nat → Nat} (hβ : ∀ i, β i < 256) {nb : Nat} (h64 : 64 ≤ nb) (hnb : nb ≤ 2048) (c2 mpa mwe mli : Nat → Int32) (mvo : Nat → Int64) (mpl : Nat → Int32) {rs : List Rec} (hS : Seg β rs) (hV : Val rs) (he : endR rs ≤ nb) (h0 : wholeN β nb (endR rs) = 0) : RStep (run (svs rs)) (nI (endR rs)) (nI rs.length) (nI (uc (svs rs))) (fX9_reads_1 nb (nI nb) 0 (sbk β) c2 mpa mwe mli mvo mpl) := by
  unfold fX9_reads_1
  have hw := fun a ha => whole_model1 hβ h64 hnb (a := a) ha c2
  have h9 : fX9_whole nb (nI nb) 0 (sbk β) c2 (9 : Int32) = some (nI (wholeN β nb 9)) := hw 9 (by omega)
  rw [h9, Option.bind_some]
  have h := r32 hβ hnb hw mpa mwe mli mvo rs.reverse [] FU mpl
  rw [List.reverse_reverse, List.append_nil] at h
  have hl := endR_len rs
  exact h hS hV he h0 trivial (by rw [List.length_reverse]; show rs.length < 4096; omega)
