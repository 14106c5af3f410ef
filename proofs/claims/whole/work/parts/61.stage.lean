/-! 61.stage: the bytes of the bank that is written anew -/
def sp (A : Aw) (p : Nat) : Aw := (A.1, A.2.1, A.2.2.1, A.2.2.2.1, p, A.2.2.2.2.2)
def zl (n : Nat) : List Nat := List.replicate n 0
def headL (g : Nat) : List Nat := nbs (lN g) 4 ++ clo ((nbs (lN g) 4).foldl cstep (-1))
def cA (t : Tab) (nb : Nat) (A : Aw) : Nat → Aw
  | 0 => wbs (enc 7 0 0 t.2.2.2.2) (sp (wbs (zl nb) A) 9)
  | k + 1 => wbs (enc 6 (keptS t (k + 1)) (keptW t (k + 1)) (t.2.2.2.1 (k + 1))) (cA t nb A k)
def finA (t : Tab) (nb : Nat) (A : Aw) (g : Nat) : Aw := wbs (headL g) (sp (cA t nb A t.1) 0)
def Low (γ : Nat → Nat) (m : Nat) : Prop := numB γ 0 4 < m ∨ γ 8 ≠ 165
theorem zl_len (n : Nat) : (zl n).length = n := List.length_replicate
theorem zl_succ (n : Nat) : zl (n + 1) = 0 :: zl n := rfl
theorem zl_take {n j : Nat} (h : j ≤ n) : (zl n).take j = zl j := by
  unfold zl
  rw [List.take_replicate, Nat.min_eq_left h]
theorem numR_mono {β β' : Nat → Nat} : ∀ (m a v v' : Nat), v' ≤ v → (∀ i, β' i ≤ β i) → numR β' a m v' ≤ numR β a m v
  | 0, _, _, _, h, _ => h
  | m + 1, a, v, v', h, hb => numR_mono m (a + 1) _ _ (by have := hb a; omega) hb
theorem putL_zl : ∀ (n : Nat) (γ : Nat → Nat) (a i : Nat), putL (zl n) γ a i = if a ≤ i ∧ i < a + n then 0 else γ i
  | 0, γ, a, i => by
    rw [if_neg (by omega)]
    rfl
  | n + 1, γ, a, i => by
    show putL (zl n) (updN γ a 0) (a + 1) i = _
    rw [putL_zl n]
    unfold updN
    by_cases h : i = a
    · subst h
      rw [if_neg (by omega), if_pos rfl, if_pos (by omega)]
    · rw [if_neg h]
      by_cases h2 : a ≤ i ∧ i < a + (n + 1)
      · rw [if_pos h2, if_pos (by omega)]
      · rw [if_neg h2, if_neg (by omega)]
theorem zstage {γ : Nat → Nat} (hγ : ∀ i, γ i < 256) {m : Nat} (hL : Low γ m) (l : Option Nat) (wr fa : Int32) (nb : Nat) : (∀ i, (wbs (zl nb) (true, l, wr, fa, 0, γ)).2.2.2.2.2 i < 256) ∧ Low (wbs (zl nb) (true, l, wr, fa, 0, γ)).2.2.2.2.2 m ∧ ((wbs (zl nb) (true, l, wr, fa, 0, γ)).1 = true → ∀ i, i < nb → (wbs (zl nb) (true, l, wr, fa, 0, γ)).2.2.2.2.2 i = 0) := by
  obtain ⟨j, hj, hW, hup⟩ := wbs_eff (zl nb) l wr fa 0 γ
  generalize wbs (zl nb) (true, l, wr, fa, 0, γ) = W at hW hup ⊢
  rw [zl_len] at hj hup
  have hb : W.2.2.2.2.2 = fun i => if i < j then 0 else γ i := by
    have h := congrArg Prod.snd hW
    rw [zl_take hj] at h
    rw [h]
    funext i
    show putL (zl j) γ 0 i = _
    rw [putL_zl]
    by_cases e : i < j
    · rw [if_pos (by omega), if_pos e]
    · rw [if_neg (by omega), if_neg e]
  rw [hb]
  refine ⟨fun i => ?_, ?_, fun hu i hi => ?_⟩
  · show (if i < j then 0 else γ i) < 256
    split
    · omega
    · exact hγ i
  · rcases hL with h | h
    · refine .inl (Nat.lt_of_le_of_lt (numR_mono 4 0 0 0 (Nat.le_refl _) (fun i => ?_)) h)
      show (if i < j then 0 else γ i) ≤ γ i
      split
      · omega
      · exact Nat.le_refl _
    · refine .inr ?_
      show (if 8 < j then 0 else γ 8) ≠ 165
      split
      · decide
      · exact h
  · show (if i < j then 0 else γ i) = 0
    rw [if_pos (by rw [hup hu]; exact hi)]
def Stg (nb m : Nat) (rs : List Rec) (A : Aw) : Prop := (∀ i, A.2.2.2.2.2 i < 256) ∧ Low A.2.2.2.2.2 m ∧ (A.1 = true → (∀ i, i < 9 → A.2.2.2.2.2 i = 0) ∧ A.2.2.2.2.1 = endR rs ∧ Seg A.2.2.2.2.2 rs ∧ Zt A.2.2.2.2.2 (endR rs) nb)
theorem stg_0 {γ : Nat → Nat} (hγ : ∀ i, γ i < 256) {m : Nat} (hL : Low γ m) (l : Option Nat) (wr fa : Int32) {nb : Nat} (h64 : 64 ≤ nb) : Stg nb m [] (sp (wbs (zl nb) (true, l, wr, fa, 0, γ)) 9) := by
  obtain ⟨h1, h2, h3⟩ := zstage hγ hL l wr fa nb
  exact ⟨h1, h2, fun hu => ⟨fun i hi => h3 hu i (by omega), rfl, trivial, fun i _ hi => h3 hu i hi⟩⟩
theorem stg_rec {nb m : Nat} {rs : List Rec} {A : Aw} (h : Stg nb m rs A) (r : Rec) : Stg nb m (r :: rs) (wbs (enc r.1 r.2.1 r.2.2.1 r.2.2.2) A) := by
  obtain ⟨up, l, wr, fa, p, β⟩ := A
  cases up
  · rw [wbs_down _ _ rfl]
    exact ⟨h.1, h.2.1, fun e => by cases e⟩
  · obtain ⟨hβ, hL, hU⟩ := h
    obtain ⟨h9, hp, hS, hz⟩ := hU rfl
    have hp : p = endR rs := hp
    subst hp
    have he9 := endR_9 rs
    obtain ⟨j, hj, hW, hup⟩ := wbs_eff (enc r.1 r.2.1 r.2.2.1 r.2.2.2) l wr fa (endR rs) β
    generalize wbs (enc r.1 r.2.1 r.2.2.1 r.2.2.2) (true, l, wr, fa, endR rs, β) = W at hW hup ⊢
    have hpos : W.2.2.2.2.1 = endR rs + j := congrArg Prod.fst hW
    have hb : W.2.2.2.2.2 = putL ((enc r.1 r.2.1 r.2.2.1 r.2.2.2).take j) β (endR rs) := congrArg Prod.snd hW
    rw [enc_len] at hj hup
    have hlow : ∀ i, i < endR rs → W.2.2.2.2.2 i = β i := fun i hi => by rw [hb]; exact putL_out _ _ _ _ (.inl hi)
    refine ⟨?_, .inr ?_, fun hu => ⟨fun i hi => ?_, ?_, ⟨?_, ?_⟩, ?_⟩⟩
    · rw [hb]
      exact putL_lt _ β _ (small_take (small_enc _ _ _ _) j) hβ
    · rw [hlow 8 (by omega)]
      have := h9 8 (by omega)
      have this : β 8 = 0 := this
      omega
    · rw [hlow i (by omega)]
      exact h9 i hi
    · rw [hpos, hup hu]
      rfl
    · have hj := hup hu
      rw [hb, hj, ← enc_len r.1 r.2.1 r.2.2.1 r.2.2.2, List.take_length]
      exact putL_at _ _ _
    · exact Seg_cong rs (fun i _ h2 => hlow i h2) hS
    · intro i h1 h2
      have h1 : endR rs + lenN r.1 ≤ i := h1
      rw [hb, putL_out _ _ _ _ (by rw [List.length_take, enc_len]; omega)]
      exact hz i (by omega) h2
theorem stg_cA {t : Tab} {γ : Nat → Nat} (hγ : ∀ i, γ i < 256) {m : Nat} (hL : Low γ m) (l : Option Nat) (wr fa : Int32) {nb : Nat} (h64 : 64 ≤ nb) : ∀ k, Stg nb m (kepts t k) (cA t nb (true, l, wr, fa, 0, γ) k)
  | 0 => stg_rec (stg_0 hγ hL l wr fa h64) (7, 0, 0, t.2.2.2.2)
  | k + 1 => stg_rec (stg_cA hγ hL l wr fa h64 k) (kept t (k + 1))
theorem headL_len (g : Nat) : (headL g).length = 9 := by
  unfold headL clo
  rw [List.length_append, List.length_append, nbs_len, nbs_len]
  rfl
theorem small_headL (g : Nat) : Small (headL g) := small_app (small_nbs _ 4) (small_app (small_nbs _ 4) (by intro x hx; rw [List.mem_singleton] at hx; omega))
theorem head_closed {β : Nat → Nat} {g : Nat} (h : BytesAt β 0 (headL g)) : closed β 0 9 = true := by
  unfold headL clo at h
  rw [BA_app, BA_app, nbs_len] at h
  obtain ⟨h1, h2, h3, -⟩ := h
  have hl := nbs_len (lN g) 4
  generalize nbs (lN g) 4 = L at h1 h2 h3 hl
  unfold closed
  have e : crcR β 0 (9 - 5) (-1) = L.foldl cstep (-1) := by rw [show 9 - 5 = L.length from hl.symm]; exact crcR_list L 0 (-1) h1
  have h3 : β (0 + 9 - 1) = 165 := by rw [nbs_len] at h3; exact h3
  have h2 : nI (numB β (0 + 9 - 5) 4) = _ := num4c h2
  rw [h2, e, h3]
  simp
theorem head_num {β : Nat → Nat} {g : Nat} (hg : g < 2 ^ 32) (h : BytesAt β 0 (headL g)) : numB β 0 4 = g := by
  unfold headL at h
  rw [BA_app] at h
  exact numB_lN (by omega) (by omega) h.1
theorem stg_head {nb m : Nat} {rs : List Rec} {A : Aw} (h : Stg nb m rs A) {β : Nat → Nat} (hm : numB β 0 4 = m) (hg : m + 1 < 2 ^ 32) (hV : Val rs) (he : endR rs ≤ nb) :
    (∀ i, (wbs (headL (m + 1)) (sp A 0)).2.2.2.2.2 i < 256) ∧ ((wbs (headL (m + 1)) (sp A 0)).1 = true → Good nb (m + 1) β (wbs (headL (m + 1)) (sp A 0)).2.2.2.2.2 rs ∧ Zt (wbs (headL (m + 1)) (sp A 0)).2.2.2.2.2 (endR rs) nb ∧ A.2.2.2.2.1 = endR rs) ∧ (Low (wbs (headL (m + 1)) (sp A 0)).2.2.2.2.2 m ∨ Good nb (m + 1) β (wbs (headL (m + 1)) (sp A 0)).2.2.2.2.2 rs) := by
  obtain ⟨up, l, wr, fa, p, γ⟩ := A
  cases up
  · rw [wbs_down _ _ rfl]
    exact ⟨h.1, (fun e => by cases e), .inl h.2.1⟩
  · obtain ⟨hγ, hL, hU⟩ := h
    obtain ⟨h9, hp, hS, hz⟩ := hU rfl
    have he9 := endR_9 rs
    show (∀ i, (wbs (headL (m + 1)) (true, l, wr, fa, 0, γ)).2.2.2.2.2 i < 256) ∧ ((wbs (headL (m + 1)) (true, l, wr, fa, 0, γ)).1 = true → Good nb (m + 1) β (wbs (headL (m + 1)) (true, l, wr, fa, 0, γ)).2.2.2.2.2 rs ∧ Zt (wbs (headL (m + 1)) (true, l, wr, fa, 0, γ)).2.2.2.2.2 (endR rs) nb ∧ p = endR rs) ∧ (Low (wbs (headL (m + 1)) (true, l, wr, fa, 0, γ)).2.2.2.2.2 m ∨ Good nb (m + 1) β (wbs (headL (m + 1)) (true, l, wr, fa, 0, γ)).2.2.2.2.2 rs)
    obtain ⟨j, hj, hW, hup⟩ := wbs_eff (headL (m + 1)) l wr fa 0 γ
    generalize wbs (headL (m + 1)) (true, l, wr, fa, 0, γ) = W at hW hup ⊢
    have hb : W.2.2.2.2.2 = putL ((headL (m + 1)).take j) γ 0 := congrArg Prod.snd hW
    rw [headL_len] at hj hup
    have hlt : ∀ i, W.2.2.2.2.2 i < 256 := by
      rw [hb]
      exact putL_lt _ γ _ (small_take (small_headL _) j) hγ
    have hhi : ∀ i, 9 ≤ i → W.2.2.2.2.2 i = γ i := fun i hi => by
      rw [hb]
      exact putL_out _ _ _ _ (.inr (by rw [List.length_take, headL_len]; omega))
    have hzt : Zt W.2.2.2.2.2 (endR rs) nb := fun i h1 h2 => by
      rw [hhi i (by omega)]
      exact hz i h1 h2
    have hgood : j = 9 → Good nb (m + 1) β W.2.2.2.2.2 rs := fun e => by
      have hB : BytesAt W.2.2.2.2.2 0 (headL (m + 1)) := by
        rw [hb, e, ← headL_len (m + 1), List.take_length]
        exact putL_at _ _ _
      have hnum := head_num hg hB
      exact ⟨hlt, ⟨head_closed hB, .inl (by omega)⟩, by omega, Seg_cong rs (fun i h1 _ => hhi i h1) hS, hV, he, hzt.whole⟩
    refine ⟨hlt, fun hu => ⟨hgood (hup hu), hzt, hp⟩, ?_⟩
    by_cases e : j = 9
    · exact .inr (hgood e)
    · refine .inl (.inr ?_)
      rw [hb, putL_out _ _ _ _ (.inr (by rw [List.length_take, headL_len]; omega))]
      have := h9 8 (by omega)
      have this : γ 8 = 0 := this
      omega
