/-! 45.row: the reference's row of bytes -/
def BytesAt (β : Nat → Nat) : Nat → List Nat → Prop
  | _, [] => True
  | a, x :: t => β a = x ∧ BytesAt β (a + 1) t
theorem crcR_list {β : Nat → Nat} : ∀ (M : List Nat) (a : Nat) (c : Int32), BytesAt β a M → crcR β a M.length c = M.foldl cstep c
  | [], _, _, _ => rfl
  | x :: t, a, c, h => by
    show crcR β (a + 1) t.length (cstep c (β a)) = t.foldl cstep (cstep c x)
    rw [h.1]
    exact crcR_list t (a + 1) _ h.2
def lowB (r : Nat → Int32) : Nat → Nat := fun i => (r i).toBitVec.toNat % 256
theorem lowB_and (r : Nat → Int32) (i : Nat) : (r i) &&& (255 : Int32) = nI (lowB r i) := pk_and (r i) 8 (by decide)
theorem lowB_lt (r : Nat → Int32) (i : Nat) : lowB r i < 256 := Nat.mod_lt _ (by decide)
theorem crc5g (r : Nat → Int32) {nb : Nat} (hnb : nb < 2 ^ 31) : ∀ (m a n : Nat) (c : Int32), a + m ≤ nb → m < n → fX9_crc_5 nb r (nI (a + m)) n c (nI a) = some (crcR (lowB r) a m c ^^^ (-1 : Int32))
  | 0, a, n + 1, c, ha, _ => by
    unfold fX9_crc_5
    rw [if_pos (nI_le (by omega) (by omega))]
    rfl
  | m + 1, a, n + 1, c, ha, hn => by
    unfold fX9_crc_5
    rw [if_neg (nI_ge (by omega) (by omega)), if_pos (ib_nI (by omega) hnb), nI_clamp (by omega), lowB_and, ← nI_0, crc25 _ _ 8 0 FU _ (by omega) (by decide), nI_1, show a + (m + 1) = (a + 1) + m by omega, crc5g r hnb m (a + 1) n _ (by omega) (by omega)]
    rfl
theorem lowB_sb {r : Nat → Int32} {i x : Nat} (hx : x < 256) (h : r i = sb_b x) : lowB r i = x := by
  have h1 := lowB_and r i
  rw [h, (sb_byte x hx).1] at h1
  exact ((nI_eq (by omega) (by have := lowB_lt r i; omega)).mp h1).symm
def Small (L : List Nat) : Prop := ∀ x ∈ L, x < 256
theorem row_bytes {r : Nat → Int32} : ∀ (L : List Nat) (j : Nat), Small L → RowIs r j L → BytesAt (lowB r) j L
  | [], _, _, _ => trivial
  | x :: t, j, hs, h => ⟨lowB_sb (hs x List.mem_cons_self) h.1, row_bytes t (j + 1) (fun y hy => hs y (List.mem_cons_of_mem _ hy)) h.2⟩
theorem row_cong {r r' : Nat → Int32} : ∀ (L : List Nat) (j : Nat), (∀ i, j ≤ i → i < j + L.length → r' i = r i) → RowIs r j L → RowIs r' j L
  | [], _, _, _ => trivial
  | x :: t, j, hc, h => ⟨by rw [hc j (Nat.le_refl j) (by show j < j + (t.length + 1); omega)]; exact h.1, row_cong t (j + 1) (fun i h1 h2 => hc i (by omega) (by show i < j + (t.length + 1); omega)) h.2⟩
theorem row_app {r : Nat → Int32} : ∀ (L M : List Nat) (j : Nat), RowIs r j L → RowIs r (j + L.length) M → RowIs r j (L ++ M)
  | [], _, _, _, h => h
  | x :: t, M, j, h, h2 => ⟨h.1, row_app t M (j + 1) h.2 (by rw [show j + 1 + t.length = j + (t.length + 1) by omega]; exact h2)⟩
theorem row_push {r : Nat → Int32} {L : List Nat} (x : Nat) (h : RowIs r 0 L) : RowIs (upd r L.length (sb_b x)) 0 (L ++ [x]) := by
  refine row_app L [x] 0 (row_cong L 0 (fun i _ h2 => pk_un (by omega)) h) ⟨?_, trivial⟩
  rw [Nat.zero_add]
  exact pk_us
theorem small_nbs (p : Int64) : ∀ m, Small (nbs p m)
  | 0 => fun _ h => absurd h List.not_mem_nil
  | m + 1 => fun y hy => by
    rcases List.mem_cons.mp hy with rfl | h
    · exact byteL_lt p m
    · exact small_nbs p m y h
theorem small_app {L M : List Nat} (h1 : Small L) (h2 : Small M) : Small (L ++ M) := fun x hx => (List.mem_append.mp hx).elim (h1 x) (h2 x)
theorem nbs1 (p : Int32) : nbs p.toInt64 1 = [byteI p 0] := by
  show [byteL p.toInt64 0] = _
  rw [byteL_i2l p 0 (by omega)]
theorem nbs2 (p : Int32) : nbs p.toInt64 2 = [byteI p 1, byteI p 0] := by
  show [byteL p.toInt64 1, byteL p.toInt64 0] = _
  rw [byteL_i2l p 0 (by omega), byteL_i2l p 1 (by omega)]
theorem nbs4 (p : Int32) : nbs p.toInt64 4 = [byteI p 3, byteI p 2, byteI p 1, byteI p 0] := by
  show [byteL p.toInt64 3, byteL p.toInt64 2, byteL p.toInt64 1, byteL p.toInt64 0] = _
  rw [byteL_i2l p 0 (by omega), byteL_i2l p 1 (by omega), byteL_i2l p 2 (by omega), byteL_i2l p 3 (by omega)]
theorem u1_b {r : Nat → Int32} {L : List Nat} (hL : L.length < 32) (h : RowIs r 0 L) (p : Int32) : ∃ r', fX9_u1 (nI L.length) r p = some (nI (L ++ [byteI p 0]).length, r') ∧ RowIs r' 0 (L ++ [byteI p 0]) := by
  refine ⟨_, ?_, row_push (byteI p 0) h⟩
  unfold fX9_u1
  rw [if_pos (ib_nI hL (by omega)), nI_clamp (by omega), vp_i8, nI_1, List.length_append]
  rfl
theorem u2_b {r : Nat → Int32} {L : List Nat} (hL : L.length + 2 ≤ 32) (h : RowIs r 0 L) (p : Int32) : ∃ r', fX9_u2 (nI L.length) r p = some (nI (L ++ [byteI p 1, byteI p 0]).length, r') ∧ RowIs r' 0 (L ++ [byteI p 1, byteI p 0]) := by
  obtain ⟨r1, h1, q1⟩ := u1_b (by omega) h (p >>> ((8 : Int32) &&& 31))
  rw [byteI_s8] at h1 q1
  obtain ⟨r2, h2, q2⟩ := u1_b (L := L ++ [byteI p 1]) (by simp; omega) q1 p
  refine ⟨r2, ?_, by simpa using q2⟩
  unfold fX9_u2
  rw [h1, Option.bind_some]
  dsimp only
  rw [h2, Option.bind_some]
  simp
theorem u4_b {r : Nat → Int32} {L : List Nat} (hL : L.length + 4 ≤ 32) (h : RowIs r 0 L) (p : Int32) : ∃ r', fX9_u4 (nI L.length) r p = some (nI (L ++ nbs p.toInt64 4).length, r') ∧ RowIs r' 0 (L ++ nbs p.toInt64 4) := by
  obtain ⟨r1, h1, q1⟩ := u2_b (by omega) h (p >>> ((16 : Int32) &&& 31))
  rw [byteI_s16 p 0 (by omega), byteI_s16 p 1 (by omega)] at h1 q1
  obtain ⟨r2, h2, q2⟩ := u2_b (L := L ++ [byteI p 3, byteI p 2]) (by simp; omega) q1 p
  rw [nbs4]
  refine ⟨r2, ?_, by simpa using q2⟩
  unfold fX9_u4
  rw [h1, Option.bind_some]
  dsimp only
  rw [h2, Option.bind_some]
  simp
theorem u1_ok {r : Nat → Int32} {L : List Nat} (hL : L.length < 32) (h : RowIs r 0 L) (p : Int32) : ∃ r', fX9_u1 (nI L.length) r p = some (nI (L ++ nbs p.toInt64 1).length, r') ∧ RowIs r' 0 (L ++ nbs p.toInt64 1) := by
  rw [nbs1]
  exact u1_b hL h p
theorem u2_ok {r : Nat → Int32} {L : List Nat} (hL : L.length + 2 ≤ 32) (h : RowIs r 0 L) (p : Int32) : ∃ r', fX9_u2 (nI L.length) r p = some (nI (L ++ nbs p.toInt64 2).length, r') ∧ RowIs r' 0 (L ++ nbs p.toInt64 2) := by
  rw [nbs2]
  exact u2_b hL h p
theorem nbs8 (v : Int64) : nbs v 8 = nbs (jlshr v (32 : Int32)).toInt32.toInt64 4 ++ nbs v.toInt32.toInt64 4 := by
  rw [nbs4, nbs4, byteI_hi v 3 (by omega), byteI_hi v 2 (by omega), byteI_hi v 1 (by omega), byteI_hi v 0 (by omega), byteI_l2i v 3 (by omega), byteI_l2i v 2 (by omega), byteI_l2i v 1 (by omega), byteI_l2i v 0 (by omega)]
  rfl
theorem u8_ok {r : Nat → Int32} {L : List Nat} (hL : L.length + 8 ≤ 32) (h : RowIs r 0 L) (v : Int64) : ∃ r', fX9_u8 (nI L.length) r v = some (nI (L ++ nbs v 8).length, r') ∧ RowIs r' 0 (L ++ nbs v 8) := by
  obtain ⟨r1, h1, q1⟩ := u4_b (by omega) h (jlshr v (32 : Int32)).toInt32
  obtain ⟨r2, h2, q2⟩ := u4_b (L := L ++ nbs (jlshr v (32 : Int32)).toInt32.toInt64 4) (by rw [List.length_append, nbs_len]; omega) q1 v.toInt32
  rw [nbs8, ← List.append_assoc]
  refine ⟨r2, ?_, q2⟩
  unfold fX9_u8
  rw [h1, Option.bind_some]
  dsimp only
  rw [h2, Option.bind_some]
theorem checked_ok {r : Nat → Int32} {L : List Nat} (hL : L.length + 5 ≤ 32) (hs : Small L) (h : RowIs r 0 L) : ∃ r', fX9_checked (nI L.length) r = some (nI (L ++ clo (L.foldl cstep (-1))).length, r') ∧ RowIs r' 0 (L ++ clo (L.foldl cstep (-1))) := by
  have hc : fX9_crc 32 r (0 : Int32) (nI L.length) = some (L.foldl cstep (-1) ^^^ (-1 : Int32)) := by
    have := crc5g r (nb := 32) (by omega) L.length 0 FU (-1) (by omega) (by show L.length < 4096; omega)
    rw [Nat.zero_add, crcR_list L 0 (-1) (row_bytes L 0 hs h)] at this
    exact this
  obtain ⟨r1, h1, q1⟩ := u4_b (by omega) h (L.foldl cstep (-1) ^^^ (-1 : Int32))
  obtain ⟨r2, h2, q2⟩ := u1_b (L := L ++ nbs (L.foldl cstep (-1) ^^^ (-1 : Int32)).toInt64 4) (by rw [List.length_append, nbs_len]; omega) q1 (165 : Int32)
  have e165 : byteI (165 : Int32) 0 = 165 := by decide
  rw [e165] at h2 q2
  unfold clo
  rw [← List.append_assoc]
  refine ⟨r2, ?_, q2⟩
  unfold fX9_checked
  rw [hc, Option.bind_some, h1, Option.bind_some]
  dsimp only
  rw [h2, Option.bind_some]
theorem begin_ok (r : Nat → Int32) {k : Nat} (h1 : 1 ≤ k) (h7 : k ≤ 7) : ∃ r', fX9_begin r (nI k) = some (nI (nbs (lN (lenN k)) 2 ++ nbs (lN k) 1).length, r') ∧ RowIs r' 0 (nbs (lN (lenN k)) 2 ++ nbs (lN k) 1) := by
  have hll : lenN k < 2 ^ 31 := by rcases k17 h1 h7 with rfl | rfl | rfl | rfl | rfl | rfl | rfl <;> decide
  obtain ⟨r1, a1, q1⟩ := u2_ok (r := r) (L := []) (by decide) trivial (nI (lenN k))
  rw [nI_l hll, List.nil_append] at a1 q1
  obtain ⟨r2, a2, q2⟩ := u1_ok (r := r1) (L := nbs (lN (lenN k)) 2) (by rw [nbs_len]; omega) q1 (nI k)
  rw [nI_l (show k < 2 ^ 31 by omega)] at a2 q2
  refine ⟨r2, ?_, q2⟩
  unfold fX9_begin
  rw [lengthOf_ok h1 h7, Option.bind_some]
  have a1' : fX9_u2 (0 : Int32) r (nI (lenN k)) = some (nI (nbs (lN (lenN k)) 2).length, r1) := a1
  rw [a1', Option.bind_some]
  dsimp only
  rw [a2, Option.bind_some]
