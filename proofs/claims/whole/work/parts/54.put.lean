/-! 54.put: what a row of bytes leaves in the bank -/
def putL : List Nat → (Nat → Nat) → Nat → (Nat → Nat)
  | [], β, _ => β
  | x :: t, β, a => putL t (updN β a x) (a + 1)
theorem putL_out : ∀ (L : List Nat) (β : Nat → Nat) (a i : Nat), (i < a ∨ a + L.length ≤ i) → putL L β a i = β i
  | [], _, _, _, _ => rfl
  | x :: t, β, a, i, h => by
    have h : i < a ∨ a + (t.length + 1) ≤ i := h
    show putL t (updN β a x) (a + 1) i = β i
    rw [putL_out t _ (a + 1) i (by omega)]
    unfold updN
    rw [if_neg (by omega)]
theorem putL_at : ∀ (L : List Nat) (β : Nat → Nat) (a : Nat), BytesAt (putL L β a) a L
  | [], _, _ => trivial
  | x :: t, β, a => by
    refine ⟨?_, putL_at t (updN β a x) (a + 1)⟩
    show putL t (updN β a x) (a + 1) a = x
    rw [putL_out t _ (a + 1) a (by omega)]
    unfold updN
    rw [if_pos rfl]
theorem putL_lt : ∀ (L : List Nat) (β : Nat → Nat) (a : Nat), Small L → (∀ i, β i < 256) → ∀ i, putL L β a i < 256
  | [], _, _, _, h => h
  | x :: t, β, a, hs, h => putL_lt t (updN β a x) (a + 1) (fun y hy => hs y (List.mem_cons_of_mem _ hy)) (fun i => by
    unfold updN
    split
    · exact hs x List.mem_cons_self
    · exact h i)
theorem wbs_eff : ∀ (L : List Nat) (l : Option Nat) (wr fa : Int32) (a : Nat) (β : Nat → Nat), ∃ j, j ≤ L.length ∧ (wbs L (true, l, wr, fa, a, β)).2.2.2.2 = (a + j, putL (L.take j) β a) ∧ ((wbs L (true, l, wr, fa, a, β)).1 = true → j = L.length)
  | [], l, wr, fa, a, β => ⟨0, Nat.le_refl _, rfl, fun _ => rfl⟩
  | x :: L, none, wr, fa, a, β => by
    obtain ⟨j, h1, h2, h3⟩ := wbs_eff L none (wr + 1) fa (a + 1) (updN β a x)
    refine ⟨j + 1, by show j + 1 ≤ L.length + 1; omega, ?_, fun h => ?_⟩
    · rw [wbs_cons]
      refine h2.trans ?_
      rw [show a + (j + 1) = a + 1 + j by omega]
      rfl
    · show j + 1 = L.length + 1
      rw [h3 h]
  | x :: L, some 0, wr, fa, a, β => by
    refine ⟨0, Nat.zero_le _, ?_, fun h => ?_⟩
    · rw [wbs_cons]
      show (wbs L (false, none, wr, fa + 1, a, β)).2.2.2.2 = _
      rw [wbs_down L _ rfl]
      rfl
    · rw [wbs_cons] at h
      have h : (wbs L (false, none, wr, fa + 1, a, β)).1 = true := h
      rw [wbs_down L _ rfl] at h
      cases h
  | x :: L, some 1, wr, fa, a, β => by
    refine ⟨1, by show 1 ≤ L.length + 1; omega, ?_, fun h => ?_⟩
    · rw [wbs_cons]
      show (wbs L (false, none, wr + 1, fa + 1, a + 1, updN β a x)).2.2.2.2 = _
      rw [wbs_down L _ rfl]
      rfl
    · rw [wbs_cons] at h
      have h : (wbs L (false, none, wr + 1, fa + 1, a + 1, updN β a x)).1 = true := h
      rw [wbs_down L _ rfl] at h
      cases h
  | x :: L, some (k + 2), wr, fa, a, β => by
    obtain ⟨j, h1, h2, h3⟩ := wbs_eff L (some (k + 1)) (wr + 1) fa (a + 1) (updN β a x)
    refine ⟨j + 1, by show j + 1 ≤ L.length + 1; omega, ?_, fun h => ?_⟩
    · rw [wbs_cons]
      refine h2.trans ?_
      rw [show a + (j + 1) = a + 1 + j by omega]
      rfl
    · show j + 1 = L.length + 1
      rw [h3 h]
theorem BA_cong {β β' : Nat → Nat} : ∀ (L : List Nat) (a : Nat), (∀ i, a ≤ i → i < a + L.length → β' i = β i) → BytesAt β a L → BytesAt β' a L
  | [], _, _, _ => trivial
  | x :: t, a, h, hb => ⟨by rw [h a (Nat.le_refl a) (by show a < a + (t.length + 1); omega)]; exact hb.1, BA_cong t (a + 1) (fun i h1 h2 => h i (by omega) (by show i < a + (t.length + 1); omega)) hb.2⟩
theorem crcR_cong {β β' : Nat → Nat} : ∀ (m a : Nat) (c : Int32), (∀ i, a ≤ i → i < a + m → β' i = β i) → crcR β' a m c = crcR β a m c
  | 0, _, _, _ => rfl
  | m + 1, a, c, h => by
    show crcR β' (a + 1) m (cstep c (β' a)) = crcR β (a + 1) m (cstep c (β a))
    rw [h a (Nat.le_refl a) (by omega)]
    exact crcR_cong m (a + 1) _ (fun i h1 h2 => h i (by omega) (by omega))
theorem numB_cong {β β' : Nat → Nat} (a m : Nat) (h : ∀ i, a ≤ i → i < a + m → β' i = β i) : numB β' a m = numB β a m := numR_congr m a 0 h
theorem closed_cong {β β' : Nat → Nat} {a len : Nat} (h5 : 5 ≤ len) (h : ∀ i, a ≤ i → i < a + len → β' i = β i) : closed β' a len = closed β a len := by
  unfold closed
  rw [numB_cong (β := β) (a + len - 5) 4 (fun i h1 h2 => h i (by omega) (by omega)), crcR_cong (β := β) (len - 5) a _ (fun i h1 h2 => h i h1 (by omega)), h (a + len - 1) (by omega) (by omega)]
theorem Seg_cong {β β' : Nat → Nat} : ∀ (rs : List Rec), (∀ i, 9 ≤ i → i < endR rs → β' i = β i) → Seg β rs → Seg β' rs
  | [], _, _ => trivial
  | r :: t, h, hs => by
    have h9 := endR_9 t
    refine ⟨BA_cong _ _ (fun i h1 h2 => h i (by omega) ?_) hs.1, Seg_cong t (fun i h1 h2 => h i h1 ?_) hs.2⟩
    · rw [enc_len] at h2
      exact h2
    · show i < endR t + lenN r.1
      omega
theorem Sel_cong {β β' γ : Nat → Nat} (h : ∀ i, i < 9 → β' i = β i) (hs : Sel β γ) : Sel β' γ := by
  unfold Sel
  rw [closed_cong (β := β) (by omega) (fun i _ h2 => h i (by omega)), numB_cong (β := β) 0 4 (fun i _ h2 => h i (by omega))]
  exact hs
def Zt (β : Nat → Nat) (e nb : Nat) : Prop := ∀ i, e ≤ i → i < nb → β i = 0
theorem Zt.whole {β : Nat → Nat} {e nb : Nat} (h : Zt β e nb) : wholeN β nb e = 0 := by
  unfold wholeN
  by_cases h2 : nb < e + 2
  · rw [if_pos h2]
  · have h0 : numB β e 2 = 0 := by
      show (0 * 256 + β e) * 256 + β (e + 1) = 0
      rw [h e (Nat.le_refl e) (by omega), h (e + 1) (by omega) (by omega)]
    rw [if_neg h2, if_pos (by omega)]
theorem part_whole {β : Nat → Nat} {e nb j : Nat} (hz : Zt β e nb) {k s w : Nat} {v : Int64} (hk1 : 1 ≤ k) (hk7 : k ≤ 7) (he : e + lenN k ≤ nb) (hj : j < lenN k) : wholeN (putL ((enc k s w v).take j) β e) nb e = 0 := by
  have h8 := lenN_le hk1 hk7
  have hlen : ((enc k s w v).take j).length = j := by rw [List.length_take, enc_len]; omega
  have hat := putL_at ((enc k s w v).take j) β e
  have hlast : putL ((enc k s w v).take j) β e (e + lenN k - 1) = 0 := by
    rw [putL_out _ _ _ _ (by rw [hlen]; omega)]
    exact hz _ (by omega) (by omega)
  have hb0 : byteL (lN (lenN k)) 1 = 0 := by
    unfold byteL
    rw [lN_nat (by omega)]
    show lenN k / 256 % 256 = 0
    omega
  have hb1 : byteL (lN (lenN k)) 0 = lenN k := byte_lN (by omega)
  have henc : ∃ R, enc k s w v = byteL (lN (lenN k)) 1 :: byteL (lN (lenN k)) 0 :: R := ⟨_, rfl⟩
  obtain ⟨R, hR⟩ := henc
  generalize hβ' : putL ((enc k s w v).take j) β e = β' at hat hlast ⊢
  have hout : ∀ i, e + j ≤ i → i < nb → β' i = 0 := fun i h1 h2 => by
    rw [← hβ', putL_out _ _ _ _ (by rw [hlen]; omega)]
    exact hz i (by omega) h2
  have hn : numB β' e 2 = β' e * 256 + β' (e + 1) := by
    show (0 * 256 + β' e) * 256 + β' (e + 1) = _
    omega
  have h2 : numB β' e 2 = 0 ∨ numB β' e 2 = lenN k := by
    rw [hn]
    rw [hR] at hat
    match j, hat, hout, hj with
    | 0, _, hout, _ => left; rw [hout e (by omega) (by omega), hout (e + 1) (by omega) (by omega)]
    | 1, hat, hout, _ =>
      left
      have h1 : β' e = byteL (lN (lenN k)) 1 := hat.1
      rw [h1, hb0, hout (e + 1) (by omega) (by omega)]
    | j + 2, hat, _, _ =>
      right
      have h1 : β' e = byteL (lN (lenN k)) 1 := hat.1
      have h3 : β' (e + 1) = byteL (lN (lenN k)) 0 := hat.2.1
      rw [h1, h3, hb0, hb1]
      omega
  unfold wholeN
  rcases h2 with h2 | h2
  · rw [h2, if_neg (by omega), if_pos (by omega)]
  · rw [h2, if_neg (by omega), if_neg (by omega), if_neg (by omega), if_neg]
    unfold closed
    rw [hlast]
    simp
theorem small_enc (k s w : Nat) (v : Int64) : Small (enc k s w v) := by
  unfold enc body clo
  refine small_app (small_app (small_nbs _ _) (small_app (small_nbs _ _) (small_app ?_ (small_app ?_ ?_)))) (small_app (small_nbs _ _) ?_)
  · split
    · exact small_nbs _ _
    · intro x hx; cases hx
  · split
    · exact small_nbs _ _
    · intro x hx; cases hx
  · split
    · exact small_nbs _ _
    · intro x hx; cases hx
  · intro x hx
    rw [List.mem_singleton] at hx
    omega
theorem small_take {L : List Nat} (h : Small L) (j : Nat) : Small (L.take j) := fun x hx => h x (List.mem_of_mem_take hx)
/-- β is a bank that recover() takes and reads as rs -/
def Good (nb g : Nat) (γ β : Nat → Nat) (rs : List Rec) : Prop := (∀ i, β i < 256) ∧ Sel β γ ∧ numB β 0 4 ≤ g ∧ Seg β rs ∧ Val rs ∧ endR rs ≤ nb ∧ wholeN β nb (endR rs) = 0
theorem after_write {nb g : Nat} {γ β : Nat → Nat} {rs : List Rec} (hG : Good nb g γ β rs) (hz : Zt β (endR rs) nb) {r : Rec} (hok : okR (run (svs rs)) (uc (svs rs)) r) (he : endR rs + lenN r.1 ≤ nb) (l : Option Nat) (wr fa : Int32) :
    ((wbs (enc r.1 r.2.1 r.2.2.1 r.2.2.2) (true, l, wr, fa, endR rs, β)).1 = true → (wbs (enc r.1 r.2.1 r.2.2.1 r.2.2.2) (true, l, wr, fa, endR rs, β)).2.2.2.2.1 = endR (r :: rs) ∧ Good nb g γ (wbs (enc r.1 r.2.1 r.2.2.1 r.2.2.2) (true, l, wr, fa, endR rs, β)).2.2.2.2.2 (r :: rs) ∧ Zt (wbs (enc r.1 r.2.1 r.2.2.1 r.2.2.2) (true, l, wr, fa, endR rs, β)).2.2.2.2.2 (endR (r :: rs)) nb) ∧
    ∃ rs', Good nb g γ (wbs (enc r.1 r.2.1 r.2.2.1 r.2.2.2) (true, l, wr, fa, endR rs, β)).2.2.2.2.2 rs' := by
  obtain ⟨hβ, hSel, hg, hS, hV, hen, h0⟩ := hG
  have hkk := okR_kind hok
  have h9 := endR_9 rs
  obtain ⟨j, hj, hW, hup⟩ := wbs_eff (enc r.1 r.2.1 r.2.2.1 r.2.2.2) l wr fa (endR rs) β
  generalize wbs (enc r.1 r.2.1 r.2.2.1 r.2.2.2) (true, l, wr, fa, endR rs, β) = W at hW hup ⊢
  rw [hW]
  rw [enc_len] at hj hup
  have hlen : ((enc r.1 r.2.1 r.2.2.1 r.2.2.2).take j).length = j := by rw [List.length_take, enc_len]; omega
  have hlow : ∀ i, i < endR rs → putL ((enc r.1 r.2.1 r.2.2.1 r.2.2.2).take j) β (endR rs) i = β i := fun i hi => putL_out _ _ _ _ (.inl hi)
  have hlt := putL_lt ((enc r.1 r.2.1 r.2.2.1 r.2.2.2).take j) β (endR rs) (small_take (small_enc _ _ _ _) j) hβ
  have hSel' := Sel_cong (γ := γ) (fun i hi => hlow i (by omega)) hSel
  have hg' : numB (putL ((enc r.1 r.2.1 r.2.2.1 r.2.2.2).take j) β (endR rs)) 0 4 ≤ g := by
    rw [numB_cong (β := β) 0 4 (fun i _ h2 => hlow i (by omega))]
    exact hg
  have hS' := Seg_cong rs (fun i _ h2 => hlow i h2) hS
  by_cases hjl : j = lenN r.1
  · have htk : (enc r.1 r.2.1 r.2.2.1 r.2.2.2).take j = enc r.1 r.2.1 r.2.2.1 r.2.2.2 := by
      rw [hjl, ← enc_len r.1 r.2.1 r.2.2.1 r.2.2.2, List.take_length]
    rw [htk] at hlt hSel' hg' hS' hlow ⊢
    have hzt : Zt (putL (enc r.1 r.2.1 r.2.2.1 r.2.2.2) β (endR rs)) (endR (r :: rs)) nb := fun i h1 h2 => by
      have h1 : endR rs + lenN r.1 ≤ i := h1
      rw [putL_out _ _ _ _ (by rw [enc_len]; omega)]
      exact hz i (by omega) h2
    have hgood : Good nb g γ (putL (enc r.1 r.2.1 r.2.2.1 r.2.2.2) β (endR rs)) (r :: rs) := ⟨hlt, hSel', hg', ⟨putL_at _ _ _, hS'⟩, ⟨hok, hV⟩, he, hzt.whole⟩
    exact ⟨fun _ => ⟨by rw [hjl]; rfl, hgood, hzt⟩, r :: rs, hgood⟩
  · refine ⟨fun h => absurd (hup h) hjl, rs, hlt, hSel', hg', hS', hV, hen, ?_⟩
    exact part_whole hz hkk.1 hkk.2 he (by omega)
