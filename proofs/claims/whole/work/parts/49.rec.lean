/-! 49.rec: a record in the bank, read back -/
theorem BA_app {β : Nat → Nat} : ∀ (L M : List Nat) (a : Nat), BytesAt β a (L ++ M) ↔ BytesAt β a L ∧ BytesAt β (a + L.length) M
  | [], M, a => ⟨fun h => ⟨trivial, h⟩, fun h => h.2⟩
  | x :: t, M, a => by
    have ih := BA_app (β := β) t M (a + 1)
    show (β a = x ∧ BytesAt β (a + 1) (t ++ M)) ↔ (β a = x ∧ BytesAt β (a + 1) t) ∧ BytesAt β (a + (t.length + 1)) M
    rw [ih, show a + (t.length + 1) = a + 1 + t.length by omega]
    exact ⟨fun h => ⟨⟨h.1, h.2.1⟩, h.2.2⟩, fun h => ⟨h.1.1, h.1.2, h.2⟩⟩
theorem numR_nbs {β : Nat → Nat} (p : Int64) : ∀ (m a v : Nat), BytesAt β a (nbs p m) → numR β a m v = v * 256 ^ m + p.toBitVec.toNat % 256 ^ m
  | 0, a, v, _ => by
    show v = v * 1 + p.toBitVec.toNat % 1
    omega
  | m + 1, a, v, h => by
    have h1 : β a = byteL p m := h.1
    show numR β (a + 1) m (v * 256 + β a) = _
    rw [numR_nbs p m (a + 1) _ h.2, h1, Nat.mod_pow_succ, Nat.pow_succ]
    unfold byteL
    rw [Nat.add_mul, Nat.mul_assoc, Nat.mul_comm (256 ^ m) 256, Nat.mul_comm (p.toBitVec.toNat / 256 ^ m % 256) (256 ^ m)]
    omega
theorem numB_nbs {β : Nat → Nat} (p : Int64) (m a : Nat) (h : BytesAt β a (nbs p m)) : numB β a m = p.toBitVec.toNat % 256 ^ m := by
  unfold numB
  rw [numR_nbs p m a 0 h]
  omega
theorem numB_lN {β : Nat → Nat} {x m a : Nat} (hx : x < 256 ^ m) (h64 : x < 2 ^ 64) (h : BytesAt β a (nbs (lN x) m)) : numB β a m = x := by
  rw [numB_nbs _ m a h, lN_nat h64, Nat.mod_eq_of_lt hx]
theorem num8 {β : Nat → Nat} {v : Int64} {a : Nat} (h : BytesAt β a (nbs v 8)) : lN (numB β a 8) = v := by
  rw [numB_nbs v 8 a h]
  apply wb_inj
  rw [wb_tb]
  apply BitVec.eq_of_toNat_eq
  rw [BitVec.toNat_ofNat]
  have := v.toBitVec.isLt
  omega
theorem num4c {β : Nat → Nat} {c : Int32} {a : Nat} (h : BytesAt β a (nbs c.toInt64 4)) : nI (numB β a 4) = c := by
  rw [nbs4] at h
  obtain ⟨h3, h2, h1, h0, -⟩ := h
  apply Int32.toBitVec_inj.mp
  apply BitVec.eq_of_toNat_eq
  have hn : numB β a 4 = ((β a * 256 + β (a + 1)) * 256 + β (a + 1 + 1)) * 256 + β (a + 1 + 1 + 1) := by
    show (((0 * 256 + β a) * 256 + β (a + 1)) * 256 + β (a + 1 + 1)) * 256 + β (a + 1 + 1 + 1) = _
    omega
  rw [hn, h3, h2, h1, h0]
  unfold byteI
  have hl := c.toBitVec.isLt
  generalize c.toBitVec.toNat = n at hl ⊢
  rw [pk_tn (by omega)]
  show ((n / 256 ^ 3 % 256 * 256 + n / 256 ^ 2 % 256) * 256 + n / 256 ^ 1 % 256) * 256 + n / 256 ^ 0 % 256 = n
  omega
def recAt (β : Nat → Nat) (a : Nat) (r : Rec) : Prop := BytesAt β a (enc r.1 r.2.1 r.2.2.1 r.2.2.2)
def fitR (r : Rec) : Prop := (1 ≤ r.1 ∧ r.1 ≤ 7) ∧ r.2.1 < 65536 ∧ r.2.2.1 < 256 ∧ (hasS r.1 = false → r.2.1 = 0) ∧ (hasW r.1 = false → r.2.2.1 = 0) ∧ (hasV r.1 = false → r.2.2.2 = 0)
theorem nbs_1 (x : Int64) : nbs x 1 = [byteL x 0] := rfl
theorem byte_lN {x : Nat} (h : x < 256) : byteL (lN x) 0 = x := by
  unfold byteL
  rw [lN_nat (by omega)]
  show x / 1 % 256 = x
  omega
theorem lenN_le {k : Nat} (h1 : 1 ≤ k) (h7 : k ≤ 7) : 8 ≤ lenN k ∧ lenN k ≤ 19 := by rcases k17 h1 h7 with rfl | rfl | rfl | rfl | rfl | rfl | rfl <;> decide
theorem rec_len {β : Nat → Nat} {a : Nat} {r : Rec} (h : recAt β a r) (hf : fitR r) : numB β a 2 = lenN r.1 := by
  unfold recAt enc body at h
  rw [BA_app, BA_app] at h
  have := lenN_le hf.1.1 hf.1.2
  exact numB_lN (by omega) (by omega) h.1.1
theorem rec_kind {β : Nat → Nat} {a : Nat} {r : Rec} (h : recAt β a r) (hf : fitR r) : β (a + 2) = r.1 := by
  unfold recAt enc body at h
  rw [BA_app, BA_app, BA_app, nbs_len, nbs_1] at h
  have h1 : β (a + 2) = byteL (lN r.1) 0 := h.1.2.1.1
  rw [h1]
  exact byte_lN (by have := hf.1.2; omega)
theorem rec_s {β : Nat → Nat} {a : Nat} {r : Rec} (h : recAt β a r) (hf : fitR r) (hS : hasS r.1 = true) : numB β (a + 3) 2 = r.2.1 := by
  unfold recAt enc body at h
  rw [BA_app, BA_app, BA_app, BA_app, nbs_len, nbs_len, hS] at h
  have h1 : BytesAt β (a + 2 + 1) (nbs (lN r.2.1) 2) := h.1.2.2.1
  exact numB_lN (by have := hf.2.1; omega) (by have := hf.2.1; omega) h1
theorem rec_w {β : Nat → Nat} {a : Nat} {r : Rec} (h : recAt β a r) (hf : fitR r) (hW : hasW r.1 = true) : β (a + 3 + (if hasS r.1 then 2 else 0)) = r.2.2.1 := by
  unfold recAt enc body at h
  rw [BA_app, BA_app, BA_app, BA_app, BA_app, nbs_len, nbs_len, hW] at h
  have h1 := h.1.2.2.2.1
  rw [if_pos rfl, nbs_1] at h1
  have h2 := h1.1
  rw [show (if hasS r.1 = true then nbs (lN r.2.1) 2 else []).length = (if hasS r.1 = true then 2 else 0) by split <;> simp [nbs_len]] at h2
  rw [show a + 3 + (if hasS r.1 = true then 2 else 0) = a + 2 + 1 + (if hasS r.1 = true then 2 else 0) by omega, h2]
  exact byte_lN hf.2.2.1
theorem rec_v {β : Nat → Nat} {a : Nat} {r : Rec} (h : recAt β a r) (hV : hasV r.1 = true) : lN (numB β (a + 3 + (if hasS r.1 then 2 else 0) + (if hasW r.1 then 1 else 0)) 8) = r.2.2.2 := by
  unfold recAt enc body at h
  rw [BA_app, BA_app, BA_app, BA_app, BA_app, nbs_len, nbs_len, hV] at h
  have h1 := h.1.2.2.2.2
  rw [if_pos rfl] at h1
  rw [show (if hasS r.1 = true then nbs (lN r.2.1) 2 else []).length = (if hasS r.1 = true then 2 else 0) by split <;> simp [nbs_len], show (if hasW r.1 = true then nbs (lN r.2.2.1) 1 else []).length = (if hasW r.1 = true then 1 else 0) by split <;> simp [nbs_len]] at h1
  rw [show a + 3 + (if hasS r.1 = true then 2 else 0) + (if hasW r.1 = true then 1 else 0) = a + 2 + 1 + (if hasS r.1 = true then 2 else 0) + (if hasW r.1 = true then 1 else 0) by omega]
  exact num8 h1
theorem body_len (k s w : Nat) (v : Int64) : (body k s w v).length + 5 = lenN k := by
  have h := enc_len k s w v
  unfold enc clo at h
  rw [List.length_append, List.length_append, nbs_len] at h
  have : ([165] : List Nat).length = 1 := rfl
  omega
theorem rec_closed {β : Nat → Nat} {a : Nat} {r : Rec} (h : recAt β a r) : closed β a (lenN r.1) = true := by
  unfold recAt enc clo at h
  have hb := body_len r.1 r.2.1 r.2.2.1 r.2.2.2
  rw [BA_app, BA_app, nbs_len] at h
  obtain ⟨h1, h2, h3, -⟩ := h
  generalize hL : body r.1 r.2.1 r.2.2.1 r.2.2.2 = L at h1 h2 h3 hb
  unfold closed
  rw [← hb, show a + (L.length + 5) - 5 = a + L.length by omega, show L.length + 5 - 5 = L.length by omega, show a + (L.length + 5) - 1 = a + L.length + 4 by omega, num4c h2, crcR_list L a (-1) h1, h3]
  simp
theorem rec_whole {β : Nat → Nat} {a nb : Nat} {r : Rec} (h : recAt β a r) (hf : fitR r) (hn : a + lenN r.1 ≤ nb) : wholeN β nb a = lenN r.1 := by
  have hl := lenN_le hf.1.1 hf.1.2
  unfold wholeN
  rw [rec_len h hf, if_neg (by omega), if_neg (by omega), if_neg (by omega), if_pos (rec_closed h)]
/-- the class reads the record's fields -/
theorem readFrom_ok {β : Nat → Nat} (hβ : ∀ i, β i < 256) {a nb : Nat} (hnb : nb ≤ 2048) {r : Rec} (h : recAt β a r) (hf : fitR r) (hn : a + lenN r.1 ≤ nb) : fX2_readFrom nb (sbk β) (nI a) = some (nI r.1, nI r.2.1, nI r.2.2.1, r.2.2.2) := by
  obtain ⟨⟨hk1, hk7⟩, hs, hw, z1, z2, z3⟩ := id hf
  have hl : lenN r.1 = 8 + (if hasS r.1 then 2 else 0) + (if hasW r.1 then 1 else 0) + (if hasV r.1 then 8 else 0) := rfl
  have e2 : nI a + (2 : Int32) = nI (a + 2) := nI_add a 2
  have e3 : nI a + (3 : Int32) = nI (a + 3) := nI_add a 3
  have f0 : ∀ x, nI x + (0 : Int32) = nI x := fun x => nI_add x 0
  have f1 : ∀ x, nI x + (1 : Int32) = nI (x + 1) := fun x => nI_add x 1
  have f2 : ∀ x, nI x + (2 : Int32) = nI (x + 2) := fun x => nI_add x 2
  have hk : fX0_at nb (sbk β) (nI (a + 2)) = some (nI r.1) := by
    rw [at_in hβ (by omega) (by have := lenN_le hk1 hk7; omega), rec_kind h hf]
  have n2 : hasS r.1 = true → fX0_number nb (sbk β) (nI (a + 3)) (2 : Int32) = some (lN r.2.1) := fun q => by
    rw [q] at hl
    rw [if_pos rfl] at hl
    have := number_in hβ (nb := nb) (by omega) (a := a + 3) (m := 2) (by omega) (by omega)
    rw [rec_s h hf q] at this
    exact this
  have w1 : hasW r.1 = true → fX0_at nb (sbk β) (nI (a + 3 + (if hasS r.1 then 2 else 0))) = some (nI r.2.2.1) := fun q => by
    rw [q, if_pos rfl] at hl
    rw [at_in hβ (by omega) (by split at hl <;> rename_i g <;> simp [g] <;> omega), rec_w h hf q]
  have v8 : hasV r.1 = true → fX0_number nb (sbk β) (nI (a + 3 + (if hasS r.1 then 2 else 0) + (if hasW r.1 then 1 else 0))) (8 : Int32) = some r.2.2.2 := fun q => by
    rw [q, if_pos rfl] at hl
    have := number_in hβ (nb := nb) (by omega) (a := a + 3 + (if hasS r.1 then 2 else 0) + (if hasW r.1 then 1 else 0)) (m := 8) (by omega) (by omega)
    rw [rec_v h q] at this
    exact this
  have hsi : (lN r.2.1).toInt32 = nI r.2.1 := lN_i _
  unfold fX2_readFrom
  rw [e2, hk, Option.bind_some, hasS_ok hk1 hk7, hasW_ok hk1 hk7, hasV_ok hk1 hk7, e3]
  cases gS : hasS r.1 <;> cases gW : hasW r.1 <;> cases gV : hasV r.1 <;> simp only [gS, gW, gV, if_true, if_false, Bool.false_eq_true, Nat.add_zero, forall_const, false_implies, true_implies] at n2 w1 v8 z1 z2 z3 <;> simp [zb, f0, f1, f2, n2, w1, v8, z1, z2, z3, hsi, nI_0]
