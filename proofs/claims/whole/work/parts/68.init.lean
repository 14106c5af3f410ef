/-! 68.init: how both begin, and the whole -/
theorem init132 {nb : Nat} (h64 : 64 ≤ nb) (hnb : nb ≤ 2048) (mb : Int32) (r : Nat → Int32) : ∀ (L : List Nat) (j f : Nat) (β : Nat → Nat), RowIs r j L → j + L.length = 9 → L.length < f → ∃ f', fX9_init_132 mb nb f (nI j) (nI 9) r (sbk β) = fX9_init_132 mb nb (f' + 1) (nI 9) (nI 9) r (sbk (putL L β j))
  | [], j, f + 1, β, _, hj, _ => by
    have hj : j = 9 := hj
    subst hj
    exact ⟨f, rfl⟩
  | x :: L, j, f + 1, β, hr, hj, hf => by
    have hj : j + (L.length + 1) = 9 := hj
    have hf : L.length + 1 < f + 1 := hf
    obtain ⟨f', e⟩ := init132 h64 hnb mb r L (j + 1) f (updN β j x) hr.2 (by omega) (by omega)
    refine ⟨f', Eq.trans ?_ e⟩
    have hx : r j = sb_b x := hr.1
    rw [fX9_init_132, if_neg (nI_ge (by omega) (by omega)), if_pos (ib_nI (by omega) (by omega)), if_pos (ib_nI (by omega) (by omega)), nI_clamp (by omega), hx, vp_sb, sbk_upd, nI_1]
theorem pure_all' (k1 k2 nb L : Nat) (xs : Nat → Int32) (hL : L ≤ 2561) (h64 : 64 ≤ nb) (hnb : nb ≤ 2048) : ∃ res1, fX5_writeHead true false (0 : Int32) (0 : Int32) (0 : Int32) (0 : Int32) nb (fun _ => (0 : Int32)) (1 : Int32) = some res1 ∧ ∃ res2, fX9_init (nI nb) nb = some res2 ∧ fL_law k1 k2 true false (0 : Int32) (0 : Int32) (0 : Int32) k1 (0 : Int32) (-1 : Int32) nb res1.2.2.2.2.2.2.2 (fun _ => (0 : Int32)) (0 : Int32) (9 : Int32) (0 : Int32) (0 : Int32) (0 : Int32) (0 : Int64) (fun _ => (0 : Int32)) (fun _ => (0 : Int32)) (fun _ => (0 : Int64)) (fun _ => (0 : Int32)) (0 : Int32) (0 : Int64) (fun _ => (0 : Int32)) (fun _ => (0 : Int64)) (fun _ => (0 : Int32)) (fun _ => (0 : Int32)) (fun _ => (0 : Int64)) (0 : Int32) (nI nb) (0 : Int32) res2.1 res2.2.1 false (-1 : Int32) (0 : Int32) (0 : Int32) res2.2.2.1 res2.2.2.2.1 res2.2.2.2.2.1 res2.2.2.2.2.2.1 res2.2.2.2.2.2.2.1 (fun _ => (0 : Int32)) res2.2.2.2.2.2.2.2.1 res2.2.2.2.2.2.2.2.2.1 res2.2.2.2.2.2.2.2.2.2.1 res2.2.2.2.2.2.2.2.2.2.2.1 res2.2.2.2.2.2.2.2.2.2.2.2.1 res2.2.2.2.2.2.2.2.2.2.2.2.2 (1 : Int32) L xs = some true := by
  have hz0 : (fun _ : Nat => (0 : Int32)) = sbk (fun _ => 0) := by
    funext i
    show (0 : Int32) = sb_b 0
    decide
  obtain ⟨cw1, bl1, c1, h1, hC1⟩ := writeHead_ok (nb := nb) (g := 1) (by omega) (by omega) (true, none, 0, 0, 0, fun _ => 0) false 0 (show 0 + 9 ≤ nb by omega) ⟨rfl, fun h => by cases h⟩
  have h1 : fX5_writeHead true false (0 : Int32) (0 : Int32) (0 : Int32) (0 : Int32) nb (sbk (fun _ => 0)) (1 : Int32) = _ := h1
  obtain ⟨j, hj, hW, hup⟩ := wbs_eff (headL 1) none 0 0 0 (fun _ => 0)
  have hnone : ∀ (L : List Nat) (wr fa : Int32) (p : Nat) (β : Nat → Nat), (wbs L (true, none, wr, fa, p, β)).1 = true := by
    intro L
    induction L with
    | nil => intro wr fa p β; rfl
    | cons x L ih => intro wr fa p β; exact ih _ _ _ _
  have hj9 := hup (hnone _ _ _ _ _)
  have hb : (wbs (headL 1) (true, none, 0, 0, 0, fun _ => 0)).2.2.2.2.2 = putL (headL 1) (fun _ => 0) 0 := by
    have h := congrArg Prod.snd hW
    rw [hj9, List.take_length] at h
    exact h
  obtain ⟨z1, r1, c, z2, r2, z3, r3, q1, q2, q3, q4, rfl, hr⟩ := head_row (fun _ => (0 : Int32)) (g := 1) (by omega)
  have q1 : fX9_u4 (0 : Int32) (fun _ => (0 : Int32)) (1 : Int32) = some (z1, r1) := q1
  rw [headL_len] at q4
  obtain ⟨f', hin⟩ := init132 h64 hnb (nI nb) r3 (headL 1) 0 FU (fun _ => 0) hr (by rw [headL_len]) (by rw [headL_len]; show 9 < 4096; omega)
  have hlt : ∀ i, putL (headL 1) (fun _ => 0) 0 i < 256 := putL_lt _ _ _ (small_headL 1) (fun _ => by omega)
  have hB : BytesAt (putL (headL 1) (fun _ => 0) 0) 0 (headL 1) := putL_at _ _ _
  generalize hβ : putL (headL 1) (fun _ => 0) 0 = β at *
  have hzt : Zt β 9 nb := fun i g1 g2 => by
    rw [← hβ]
    exact putL_out _ _ _ _ (.inr (by rw [headL_len]; omega))
  have hG : Good nb 1 (fun _ => 0) β [] := ⟨hlt, ⟨head_closed hB, .inr (by decide)⟩, by rw [head_num (by omega) hB]; omega, trivial, trivial, (by show 9 ≤ nb; omega), Zt.whole (e := 9) hzt⟩
  obtain ⟨ms, ml, mpa, mwe, mli, mvo, mpl, hrd, hMT⟩ := reads_1 hlt h64 hnb (sbk (fun _ => 0)) (fun _ => (0 : Int32)) (fun _ => (0 : Int32)) (fun _ => (0 : Int32)) (fun _ => (0 : Int64)) (fun _ => (0 : Int32)) (rs := []) trivial trivial (show 9 ≤ nb by omega) (Zt.whole (e := 9) hzt)
  have hinit : fX9_init (nI nb) nb = some (nI 9, nI 0, ms, nI 0, ml, nI 9, sbk β, mpa, mwe, mli, mvo, r3, mpl) := by
    unfold fX9_init
    rw [q1, Option.bind_some]
    dsimp only
    rw [q2, Option.bind_some, q3, Option.bind_some]
    dsimp only
    rw [q4, Option.bind_some]
    dsimp only
    have hin : fX9_init_132 (nI nb) nb FU (0 : Int32) (nI 9) r3 (fun _ => (0 : Int32)) = fX9_init_132 (nI nb) nb (f' + 1) (nI 9) (nI 9) r3 (sbk β) := by rw [hz0]; exact hin
    rw [hin, fX9_init_132, if_pos (nI_le (Nat.le_refl _) (by omega))]
    have hrd : fX9_reads_1 nb (nI nb) (0 : Int32) (sbk β) (fun _ => (0 : Int32)) (fun _ => (0 : Int32)) (fun _ => (0 : Int32)) (fun _ => (0 : Int32)) (fun _ => (0 : Int64)) (fun _ => (0 : Int32)) = some (nI 9, nI 0, ms, nI 0, ml, mpa, mwe, mli, mvo, mpl) := by
      have e : fX9_reads_1 nb (nI nb) (0 : Int32) (sbk β) (fun _ => (0 : Int32)) (fun _ => (0 : Int32)) (fun _ => (0 : Int32)) (fun _ => (0 : Int32)) (fun _ => (0 : Int64)) (fun _ => (0 : Int32)) = fX9_reads_1 nb (nI nb) (0 : Int32) (sbk β) (sbk (fun _ => 0)) (fun _ => (0 : Int32)) (fun _ => (0 : Int32)) (fun _ => (0 : Int32)) (fun _ => (0 : Int64)) (fun _ => (0 : Int32)) := congrArg (fun z => fX9_reads_1 nb (nI nb) (0 : Int32) (sbk β) z (fun _ => (0 : Int32)) (fun _ => (0 : Int32)) (fun _ => (0 : Int32)) (fun _ => (0 : Int64)) (fun _ => (0 : Int32))) hz0
      exact e.trans hrd
    rw [hrd, Option.bind_some]
  rw [hb] at h1
  refine ⟨_, by rw [hz0]; exact h1, _, hinit, ?_⟩
  unfold fL_law
  refine law_ok h64 hnb k1 k2 L hL xs L 1 FU 1 _ _ _ _ _ _ _ _ _ _ _ _ _ _ _ _ _ _ _ _ _ _ _ _ _ _ _ _ _ _ _ _ _ _ _ _ _ _ _ _ _ _ _ _ _ _ _ (by omega) (by omega) (by show L < 4096; omega) (by omega) ?_
  refine ⟨rfl, rfl, rfl, rfl, rfl, ⟨0, by omega, rfl⟩, ⟨none, rfl, (fun k h => by cases h), rfl, fun h => by cases h⟩, false, β, fun _ => 0, [], (fun _ => by show 0 < 256; omega), rfl, hz0, hG, fun _ => ⟨rfl, rfl, rfl, rfl, hzt, ⟨rfl, rfl, rfl, fun k g1 g2 => absurd g2 (by show ¬ k ≤ 0; omega), trivial⟩, hMT, rfl⟩⟩
