/-! 40.crc: the two ways to make CHECK are one -/
def bsv (z : BitVec 32) : BitVec 32 := if z.getLsbD 0 then (z >>> 1) ^^^ 0xedb88320#32 else z >>> 1
theorem low4 (z : BitVec 32) (b0 b1 b2 b3 : Bool) (h0 : z.getLsbD 0 = b0) (h1 : z.getLsbD 1 = b1) (h2 : z.getLsbD 2 = b2) (h3 : z.getLsbD 3 = b3) : z.toNat % 16 = (if b0 then 1 else 0) + 2 * (if b1 then 1 else 0) + 4 * (if b2 then 1 else 0) + 8 * (if b3 then 1 else 0) := by
  rw [← BitVec.testBit_toNat] at h0 h1 h2 h3
  rw [Nat.testBit_eq_decide_div_mod_eq] at h0 h1 h2 h3
  cases b0 <;> cases b1 <;> cases b2 <;> cases b3 <;> simp at h0 h1 h2 h3 ⊢ <;> omega
theorem bsv4 (z : BitVec 32) : bsv (bsv (bsv (bsv z))) = (z >>> 4) ^^^ (crcT (z.toNat % 16)).toBitVec := by
  have hl := low4 z _ _ _ _ rfl rfl rfl rfl
  rw [hl]
  have e0 : z.getLsbD 0 = z[0] := rfl
  have e1 : z.getLsbD 1 = z[1] := rfl
  have e2 : z.getLsbD 2 = z[2] := rfl
  have e3 : z.getLsbD 3 = z[3] := rfl
  rw [e0, e1, e2, e3]
  cases h0 : z[0] <;> cases h1 : z[1] <;> cases h2 : z[2] <;> cases h3 : z[3] <;>
    simp [bsv, h0, h1, h2, h3, BitVec.ushiftRight_xor_distrib, ← BitVec.shiftRight_add, BitVec.xor_assoc, crcT, crcL]
theorem jiu (x : Int32) (k : Nat) (hk : k < 32) : (jiushr x (nI k)).toBitVec = x.toBitVec >>> k := by
  have hs : (((nI k).toUInt32 &&& Int32.toUInt32 31).toBitVec % 32).toNat = k := s_u k hk
  apply BitVec.eq_of_toNat_eq
  rw [show (jiushr x (nI k)).toBitVec.toNat = x.toBitVec.toNat / 2 ^ k from pk_ushr x (nI k) k hs, BitVec.toNat_ushiftRight, Nat.shiftRight_eq_div_pow]
def bst (c : Int32) : Int32 := if (c &&& (1 : Int32)) = 0 then jiushr c (1 : Int32) else (jiushr c (1 : Int32)) ^^^ (-306674912 : Int32)
theorem and1 (c : Int32) : (c &&& (1 : Int32)) = 0 ↔ c.toBitVec.getLsbD 0 = false := by
  rw [← Int32.toBitVec_inj]
  rw [show (c &&& (1 : Int32)).toBitVec = c.toBitVec &&& 1#32 from rfl]
  constructor
  · intro h
    have := congrArg (fun z => BitVec.getLsbD z 0) h
    simpa using this
  · intro h
    apply BitVec.eq_of_getLsbD_eq
    intro i hi
    by_cases e : i = 0
    · subst e; simpa using h
    · simp [e]
theorem bst_bv (c : Int32) : (bst c).toBitVec = bsv c.toBitVec := by
  unfold bst bsv
  have j1 : (jiushr c (1 : Int32)).toBitVec = c.toBitVec >>> 1 := jiu c 1 (by omega)
  by_cases h : (c &&& (1 : Int32)) = 0
  · rw [if_pos h, if_neg (by rw [(and1 c).mp h]; decide)]
    exact j1
  · rw [if_neg h]
    have h2 : c.toBitVec.getLsbD 0 = true := by
      cases hb : c.toBitVec.getLsbD 0
      · exact absurd ((and1 c).mpr hb) h
      · rfl
    rw [if_pos h2, show (jiushr c (1 : Int32) ^^^ (-306674912 : Int32)).toBitVec = (jiushr c (1 : Int32)).toBitVec ^^^ (-306674912 : Int32).toBitVec from rfl, j1]
    rfl
def bstN : Nat → Int32 → Int32
  | 0, z => z
  | m + 1, z => bstN m (bst z)
def cstep (c : Int32) (x : Nat) : Int32 := bstN 8 (c ^^^ nI x)
theorem bst4 (z : Int32) : bst (bst (bst (bst z))) = (jiushr z (4 : Int32)) ^^^ crcT (z.toBitVec.toNat % 16) := by
  apply Int32.toBitVec_inj.mp
  rw [bst_bv, bst_bv, bst_bv, bst_bv, bsv4]
  show _ = (jiushr z (4 : Int32)).toBitVec ^^^ _
  rw [show (jiushr z (4 : Int32)).toBitVec = z.toBitVec >>> 4 from jiu z 4 (by omega)]
theorem and15 (z : Int32) : (z &&& (15 : Int32)) = nI (z.toBitVec.toNat % 16) := pk_and z 4 (by decide)
theorem jiu_xor (a b : Int32) (k : Nat) (hk : k < 32) : jiushr (a ^^^ b) (nI k) = jiushr a (nI k) ^^^ jiushr b (nI k) := by
  apply Int32.toBitVec_inj.mp
  rw [jiu _ k hk]
  show (a.toBitVec ^^^ b.toBitVec) >>> k = (jiushr a (nI k)).toBitVec ^^^ (jiushr b (nI k)).toBitVec
  rw [jiu _ k hk, jiu _ k hk, BitVec.ushiftRight_xor_distrib]
theorem xor_rot (a b c : Int32) : (a ^^^ b) ^^^ c = (a ^^^ c) ^^^ b := by
  rw [Int32.xor_assoc, Int32.xor_comm b c, ← Int32.xor_assoc]
theorem ibM {m : Nat} (h : m < 16) : ib (nI m) 16 = true := in_ib (vp_in_nI h (by omega))
theorem jiu_small (x : Nat) (hx : x < 256) : jiushr (jiushr (nI x) (4 : Int32)) (4 : Int32) = 0 := by
  apply Int32.toBitVec_inj.mp
  rw [show (jiushr (jiushr (nI x) (4 : Int32)) (4 : Int32)).toBitVec = (jiushr (nI x) (4 : Int32)).toBitVec >>> 4 from jiu _ 4 (by omega), show (jiushr (nI x) (4 : Int32)).toBitVec = (nI x).toBitVec >>> 4 from jiu _ 4 (by omega)]
  apply BitVec.eq_of_toNat_eq
  rw [BitVec.toNat_ushiftRight, BitVec.toNat_ushiftRight, pk_tn (by omega), Nat.shiftRight_eq_div_pow, Nat.shiftRight_eq_div_pow]
  show x / 2 ^ 4 / 2 ^ 4 = 0
  omega
/-- the class's step, half a byte at a time, is the eight bit steps -/
theorem step_ok (c : Int32) (x : Nat) (hx : x < 256) : fX1_step c (nI x) = some (cstep c x) := by
  unfold fX1_step
  rw [and15]
  rw [if_pos (ibM (by omega)), nI_clamp (by omega)]
  generalize hT : crcT ((c ^^^ nI x).toBitVec.toNat % 16) = T1
  rw [and15]
  rw [if_pos (ibM (by omega)), nI_clamp (by omega)]
  have h8 : bstN 8 (c ^^^ nI x) = bst (bst (bst (bst (bst (bst (bst (bst (c ^^^ nI x)))))))) := rfl
  unfold cstep
  rw [h8, bst4, bst4 (c ^^^ nI x), hT]
  have e1 : (jiushr (c ^^^ nI x) (4 : Int32)) ^^^ T1 = ((jiushr c (4 : Int32)) ^^^ T1) ^^^ (jiushr (nI x) (4 : Int32)) := by
    rw [show jiushr (c ^^^ nI x) (4 : Int32) = jiushr c (4 : Int32) ^^^ jiushr (nI x) (4 : Int32) from jiu_xor c (nI x) 4 (by omega), xor_rot]
  rw [e1]
  congr 1
  rw [show jiushr (((jiushr c (4 : Int32)) ^^^ T1) ^^^ (jiushr (nI x) (4 : Int32))) (4 : Int32) = jiushr ((jiushr c (4 : Int32)) ^^^ T1) (4 : Int32) ^^^ jiushr (jiushr (nI x) (4 : Int32)) (4 : Int32) from jiu_xor _ _ 4 (by omega), jiu_small x hx]
  simp
/-- the reference's inner loop -/
theorem crc25 (v : Int32) (k : Int32 → Int32 → Option Int32) : ∀ (m j n : Nat) (z : Int32), j + m = 8 → m < n → fX9_crc_25 v k n z (nI j) = k (bstN m z) (v + (1 : Int32))
  | 0, j, n + 1, z, hj, _ => by
    have e : j = 8 := by omega
    subst e
    unfold fX9_crc_25
    rw [if_pos (by decide)]
    rfl
  | m + 1, j, n + 1, z, hj, hn => by
    unfold fX9_crc_25
    rw [if_neg (show ¬ (8 : Int32) ≤ nI j from nI_ge (a := j) (b := 8) (by omega) (by omega)), show nI j + (1 : Int32) = nI (j + 1) from nI_1 j, crc25 v k m (j + 1) n _ (by omega) (by omega), crc25 v k m (j + 1) n _ (by omega) (by omega)]
    show (if _ then _ else _) = k (bstN m (bst z)) _
    unfold bst
    by_cases h : (z &&& (1 : Int32)) = 0
    · rw [if_pos h, if_pos h]
    · rw [if_neg h, if_neg h]
/-- a bank's content, out of bytes 0 to 255 -/
def sbk (β : Nat → Nat) : Nat → Int32 := fun i => sb_b (β i)
theorem sbk_and {β : Nat → Nat} (hβ : ∀ i, β i < 256) (i : Nat) : (sbk β i) &&& (255 : Int32) = nI (β i) := (sb_byte (β i) (hβ i)).1
def crcR (β : Nat → Nat) : Nat → Nat → Int32 → Int32
  | _, 0, c => c
  | a, m + 1, c => crcR β (a + 1) m (cstep c (β a))
theorem ib_nI {i n : Nat} (h : i < n) (hn : n < 2 ^ 31) : ib (nI i) n = true := in_ib (vp_in_nI h hn)
theorem crc5 {β : Nat → Nat} (hβ : ∀ i, β i < 256) {nb : Nat} (hnb : nb < 2 ^ 31) : ∀ (m a n : Nat) (c : Int32), a + m ≤ nb → m < n → fX9_crc_5 nb (sbk β) (nI (a + m)) n c (nI a) = some (crcR β a m c ^^^ (-1 : Int32))
  | 0, a, n + 1, c, ha, _ => by
    unfold fX9_crc_5
    rw [if_pos (nI_le (by omega) (by omega))]
    rfl
  | m + 1, a, n + 1, c, ha, hn => by
    unfold fX9_crc_5
    rw [if_neg (nI_ge (by omega) (by omega)), if_pos (ib_nI (by omega) hnb), nI_clamp (by omega), sbk_and hβ, ← nI_0, crc25 _ _ 8 0 FU _ (by omega) (by decide), nI_1, show a + (m + 1) = (a + 1) + m by omega, crc5 hβ hnb m (a + 1) n _ (by omega) (by omega)]
    rfl
theorem crc_ok {β : Nat → Nat} (hβ : ∀ i, β i < 256) {nb : Nat} (hnb : nb < 2 ^ 31) (a m : Nat) (ha : a + m ≤ nb) (hm : m < 4096) : fX9_crc nb (sbk β) (nI a) (nI (a + m)) = some (crcR β a m (-1) ^^^ (-1 : Int32)) := crc5 hβ hnb m a FU _ ha hm
