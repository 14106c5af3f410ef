/-! 41.read: numbers, closings and whole records, read by both -/
def numR (β : Nat → Nat) : Nat → Nat → Nat → Nat
  | _, 0, v => v
  | a, m + 1, v => numR β (a + 1) m (v * 256 + β a)
def numB (β : Nat → Nat) (a m : Nat) : Nat := numR β a m 0
def ex (β : Nat → Nat) (nb : Nat) : Nat → Nat := fun i => if i < nb then β i else 255
theorem ex_lt {β : Nat → Nat} (hβ : ∀ i, β i < 256) (nb i : Nat) : ex β nb i < 256 := by
  unfold ex
  split
  · exact hβ i
  · omega
theorem numR_congr {β γ : Nat → Nat} : ∀ (m a v : Nat), (∀ i, a ≤ i → i < a + m → β i = γ i) → numR β a m v = numR γ a m v
  | 0, _, _, _ => rfl
  | m + 1, a, v, h => by
    show numR β (a + 1) m (v * 256 + β a) = numR γ (a + 1) m (v * 256 + γ a)
    rw [h a (Nat.le_refl a) (by omega)]
    exact numR_congr m (a + 1) _ (fun i h1 h2 => h i (by omega) (by omega))
theorem numB_ex {β : Nat → Nat} {nb a m : Nat} (h : a + m ≤ nb) : numB (ex β nb) a m = numB β a m := numR_congr m a 0 (fun i _ h2 => by unfold ex; rw [if_pos (by omega)])
theorem numR_lt {β : Nat → Nat} (hβ : ∀ i, β i < 256) : ∀ (m a v k : Nat), v < 256 ^ k → numR β a m v < 256 ^ (k + m)
  | 0, _, _, _, h => h
  | m + 1, a, v, k, h => by
    have := numR_lt hβ m (a + 1) (v * 256 + β a) (k + 1) (by have := hβ a; rw [Nat.pow_succ]; omega)
    rw [show k + (m + 1) = k + 1 + m by omega]
    exact this
theorem numB_lt {β : Nat → Nat} (hβ : ∀ i, β i < 256) (a m : Nat) : numB β a m < 256 ^ m := by
  have := numR_lt hβ m a 0 0 (by decide)
  rwa [Nat.zero_add] at this
theorem n255 {x : Nat} (h : x < 256) : nI x &&& (255 : Int32) = nI x := by
  rw [pk_andN (by omega) (m := 255) 8 (by decide), Nat.mod_eq_of_lt h]
theorem at_in {β : Nat → Nat} (hβ : ∀ i, β i < 256) {nb i : Nat} (hnb : nb < 2 ^ 31) (hi : i < nb) : fX0_at nb (sbk β) (nI i) = some (nI (β i)) := by
  unfold fX0_at
  rw [if_neg (nI_pos (by omega)), if_neg (nI_ge hi hnb), if_pos (ib_nI hi hnb), nI_clamp (by omega), sbk_and hβ]
theorem at_out {b : Nat → Int32} {nb i : Nat} (hi : i < 2 ^ 31) (h : nb ≤ i) : fX0_at nb b (nI i) = some (-1 : Int32) := by
  unfold fX0_at
  rw [if_neg (nI_pos hi), if_pos (nI_le h hi)]
theorem at_ex {β : Nat → Nat} (hβ : ∀ i, β i < 256) {nb : Nat} (hnb : nb < 2 ^ 31) {i : Nat} (hi : i < 2 ^ 31) : ∃ r : Int32, fX0_at nb (sbk β) (nI i) = some r ∧ r &&& (255 : Int32) = nI (ex β nb i) := by
  unfold ex
  by_cases h : i < nb
  · exact ⟨_, at_in hβ hnb h, by rw [if_pos h, n255 (hβ i)]⟩
  · exact ⟨_, at_out hi (by omega), by rw [if_neg h]; decide⟩
theorem acc8 (v : Nat) {x : Nat} (hx : x < 256) : (jlshl (lN v) (8 : Int32)) ||| ((nI x).toInt64) = lN (v * 256 + x) := by
  have h1 : jlshl (lN v) (8 : Int32) = lN (v * 2 ^ 8) := wb_shl v (k := 8) (by omega)
  rw [h1, nI_l (by omega), Nat.mul_comm v (2 ^ 8), fb_or_sumL v (k := 8) (by omega)]
theorem num5 {β : Nat → Nat} (hβ : ∀ i, β i < 256) {nb : Nat} (hnb : nb < 2 ^ 31) {a M : Nat} (ha : a + M < 2 ^ 31) : ∀ (m j n v : Nat), j + m = M → m < n → fX0_number_5 nb (sbk β) (nI a) (nI M) n (lN v) (nI j) = some (lN (numR (ex β nb) (a + j) m v))
  | 0, j, n + 1, v, hj, _ => by
    unfold fX0_number_5
    rw [if_pos (nI_le (by omega) (by omega))]
    rfl
  | m + 1, j, n + 1, v, hj, hn => by
    unfold fX0_number_5
    obtain ⟨r, h1, h2⟩ := at_ex hβ hnb (i := a + j) (by omega)
    rw [if_neg (nI_ge (by omega) (by omega)), nI_add, h1, Option.bind_some, h2, acc8 v (ex_lt hβ nb _), nI_1, num5 hβ hnb ha m (j + 1) n _ (by omega) (by omega)]
    rfl
theorem number_ex {β : Nat → Nat} (hβ : ∀ i, β i < 256) {nb : Nat} (hnb : nb < 2 ^ 31) {a m : Nat} (ha : a + m < 2 ^ 31) (hm : m < 4096) : fX0_number nb (sbk β) (nI a) (nI m) = some (lN (numB (ex β nb) a m)) := num5 hβ hnb ha m 0 FU 0 (by omega) hm
theorem number_in {β : Nat → Nat} (hβ : ∀ i, β i < 256) {nb : Nat} (hnb : nb < 2 ^ 31) {a m : Nat} (ha : a + m ≤ nb) (hm : m < 4096) : fX0_number nb (sbk β) (nI a) (nI m) = some (lN (numB β a m)) := by
  rw [number_ex hβ hnb (by omega) hm, numB_ex ha]
theorem take5 {β : Nat → Nat} (hβ : ∀ i, β i < 256) {nb : Nat} (hnb : nb < 2 ^ 31) {a M : Nat} (ha : a + M ≤ nb) : ∀ (m j n v : Nat), j + m = M → m < n → fX9_take_5 nb (sbk β) (nI a) (nI M) n (lN v) (nI j) = some (lN (numR β (a + j) m v))
  | 0, j, n + 1, v, hj, _ => by
    unfold fX9_take_5
    rw [if_pos (nI_le (by omega) (by omega))]
    rfl
  | m + 1, j, n + 1, v, hj, hn => by
    unfold fX9_take_5
    rw [if_neg (nI_ge (by omega) (by omega)), nI_add, if_pos (ib_nI (by omega) hnb), nI_clamp (by omega), sbk_and hβ, acc8 v (hβ _), nI_1, take5 hβ hnb ha m (j + 1) n _ (by omega) (by omega)]
    rfl
theorem take_in {β : Nat → Nat} (hβ : ∀ i, β i < 256) {nb : Nat} (hnb : nb < 2 ^ 31) {a m : Nat} (ha : a + m ≤ nb) (hm : m < 4096) : fX9_take nb (sbk β) (nI a) (nI m) = some (lN (numB β a m)) := take5 hβ hnb ha m 0 FU 0 (by omega) hm
def closed (β : Nat → Nat) (a len : Nat) : Bool := decide (nI (numB β (a + len - 5) 4) = crcR β a (len - 5) (-1) ^^^ (-1 : Int32)) && decide (β (a + len - 1) = 165)
theorem icr {β : Nat → Nat} (hβ : ∀ i, β i < 256) {nb : Nat} (hnb : nb < 2 ^ 31) {B : Nat} (hB : B + 5 ≤ nb) : ∀ (m a n : Nat) (c : Int32), a + m = B → m < n → fX0_isClosedRight_12 nb (sbk β) n (nI B) c (nI a) = some (decide (nI (numB β B 4) = crcR β a m c ^^^ (-1 : Int32)) && decide (β (B + 4) = 165))
  | 0, a, n + 1, c, ha, _ => by
    unfold fX0_isClosedRight_12
    have h4 : fX0_number nb (sbk β) (nI B) (4 : Int32) = some (lN (numB β B 4)) := number_in hβ hnb (m := 4) (by omega) (by omega)
    rw [if_pos (nI_le (by omega) (by omega)), h4, Option.bind_some, lN_i, show nI B + (4 : Int32) = nI (B + 4) from nI_add B 4, at_in hβ hnb (by omega), Option.bind_some]
    show _ = some (decide (nI (numB β B 4) = c ^^^ (-1 : Int32)) && decide (β (B + 4) = 165))
    by_cases h1 : nI (numB β B 4) = c ^^^ (-1 : Int32)
    · rw [if_pos h1]
      by_cases h2 : β (B + 4) = 165
      · rw [if_pos (by rw [h2]; decide), decide_eq_true h1, decide_eq_true h2]
        rfl
      · rw [if_neg (show ¬ nI (β (B + 4)) = (165 : Int32) from fun h => h2 ((nI_eq (b := 165) (by have := hβ (B + 4); omega) (by omega)).mp h)), decide_eq_false h2, Bool.and_false]
    · rw [if_neg h1, decide_eq_false h1, Bool.false_and]
  | m + 1, a, n + 1, c, ha, hn => by
    unfold fX0_isClosedRight_12
    rw [if_neg (nI_ge (by omega) (by omega)), at_in hβ hnb (by omega), Option.bind_some, step_ok c _ (hβ a), Option.bind_some, nI_1, icr hβ hnb hB m (a + 1) n _ (by omega) (by omega)]
    rfl
theorem closed_class {β : Nat → Nat} (hβ : ∀ i, β i < 256) {nb : Nat} (hnb : nb ≤ 2048) {a len : Nat} (h5 : 5 ≤ len) (ha : a + len ≤ nb) : fX0_isClosedRight nb (sbk β) (nI a) (nI len) = some (closed β a len) := by
  unfold fX0_isClosedRight
  have e : (nI a + nI len) - (5 : Int32) = nI (a + len - 5) := by
    rw [nI_add]
    exact pk_sub (a := a + len) (b := 5) (by omega)
  rw [e, icr hβ (by omega) (B := a + len - 5) (by omega) (len - 5) a FU _ (by omega) (by show len - 5 < 4096; omega)]
  unfold closed
  rw [show a + len - 5 + 4 = a + len - 1 by omega]
def wholeN (β : Nat → Nat) (nb a : Nat) : Nat := if nb < a + 2 then 0 else if numB β a 2 < 8 then 0 else if nb < a + numB β a 2 then 0 else if closed β a (numB β a 2) then numB β a 2 else 0
theorem zb_t : zb true = 1 := rfl
theorem zb_f : zb false = 0 := rfl
theorem whole_class {β : Nat → Nat} (hβ : ∀ i, β i < 256) {nb : Nat} (h64 : 64 ≤ nb) (hnb : nb ≤ 2048) {a : Nat} (ha : a ≤ nb) : fX0_wholeRecordAt nb (sbk β) (nI a) = some (nI (wholeN β nb a)) := by
  unfold fX0_wholeRecordAt wholeN
  have hn2 : fX0_number nb (sbk β) (nI a) (2 : Int32) = some (lN (numB (ex β nb) a 2)) := number_ex hβ (by omega) (m := 2) (by omega) (by omega)
  rw [hn2, Option.bind_some, lN_i]
  have hlt : numB (ex β nb) a 2 < 65536 := numB_lt (ex_lt hβ nb) a 2
  by_cases h1 : nb < a + 2
  · rw [if_pos h1]
    have hv : numB (ex β nb) a 2 = ex β nb a * 256 + ex β nb (a + 1) := by
      show numR (ex β nb) (a + 1 + 1) 0 ((0 * 256 + ex β nb a) * 256 + ex β nb (a + 1)) = _
      show (0 * 256 + ex β nb a) * 256 + ex β nb (a + 1) = _
      omega
    have h255 : ex β nb (a + 1) = 255 := by unfold ex; rw [if_neg (by omega)]
    have hge : 255 ≤ numB (ex β nb) a 2 := by rw [hv, h255]; omega
    rw [if_neg (show ¬ nI (numB (ex β nb) a 2) < (8 : Int32) from nI_nlt (a := numB (ex β nb) a 2) (b := 8) (by omega) (by omega)), pk_sub ha, if_pos (nI_lt (by omega) (by omega))]
    rfl
  · rw [if_neg h1, numB_ex (by omega)]
    rw [numB_ex (by omega)] at hlt
    by_cases h2 : numB β a 2 < 8
    · rw [if_pos h2, if_pos (show nI (numB β a 2) < (8 : Int32) from nI_lt (a := numB β a 2) (b := 8) h2 (by omega))]
      rfl
    · rw [if_neg h2, if_neg (show ¬ nI (numB β a 2) < (8 : Int32) from nI_nlt (a := numB β a 2) (b := 8) (by omega) (by omega)), pk_sub ha]
      by_cases h3 : nb < a + numB β a 2
      · rw [if_pos h3, if_pos (nI_lt (by omega) (by omega))]
        rfl
      · rw [if_neg h3, if_neg (nI_nlt (by omega) (by omega)), closed_class hβ hnb (by omega) (by omega), Option.bind_some]
        cases closed β a (numB β a 2)
        · rfl
        · rfl
theorem w9_aux {β : Nat → Nat} (hβ : ∀ i, β i < 256) {nb : Nat} (h64 : 64 ≤ nb) (hnb : nb ≤ 2048) {a : Nat} (ha : a ≤ nb) : (if (nI a + (2 : Int32)) ≤ nI nb then ((fX9_take nb (sbk β) (nI a) (2 : Int32)).bind fun r_4 => (if (r_4.toInt32) < (8 : Int32) then some (0 : Int32) else (if (nI a + (r_4.toInt32)) ≤ nI nb then ((fX9_take nb (sbk β) ((nI a + (r_4.toInt32)) - (5 : Int32)) (4 : Int32)).bind fun r_8 => ((fX9_crc nb (sbk β) (nI a) ((nI a + (r_4.toInt32)) - (5 : Int32))).bind fun r_10 => (if (r_8.toInt32) = r_10 then (if (ib ((nI a + (r_4.toInt32)) - (1 : Int32)) nb) = true then (if ((sbk β ((nI a + (r_4.toInt32)) - (1 : Int32)).toNatClampNeg) &&& (255 : Int32)) = (165 : Int32) then some (r_4.toInt32) else some (0 : Int32)) else none) else some (0 : Int32)))) else some (0 : Int32)))) else some (0 : Int32)) = some (nI (wholeN β nb a)) := by
  unfold wholeN
  rw [show nI a + (2 : Int32) = nI (a + 2) from nI_add a 2]
  by_cases h1 : nb < a + 2
  · rw [if_pos h1, if_neg (nI_ge h1 (by omega))]
    rfl
  · have ht2 : fX9_take nb (sbk β) (nI a) (2 : Int32) = some (lN (numB β a 2)) := take_in hβ (by omega) (m := 2) (by omega) (by omega)
    rw [if_neg h1, if_pos (nI_le (by omega) (by omega)), ht2, Option.bind_some, lN_i]
    have hlt : numB β a 2 < 65536 := numB_lt hβ a 2
    by_cases h2 : numB β a 2 < 8
    · rw [if_pos h2, if_pos (show nI (numB β a 2) < (8 : Int32) from nI_lt (a := numB β a 2) (b := 8) h2 (by omega))]
      rfl
    · rw [if_neg h2, if_neg (show ¬ nI (numB β a 2) < (8 : Int32) from nI_nlt (a := numB β a 2) (b := 8) (by omega) (by omega)), nI_add]
      by_cases h3 : nb < a + numB β a 2
      · rw [if_pos h3, if_neg (nI_ge h3 (by omega))]
        rfl
      · generalize hn : numB β a 2 = N at h2 h3 hlt ⊢
        have e5 : nI (a + N) - (5 : Int32) = nI (a + (N - 5)) := by
          rw [show a + (N - 5) = a + N - 5 by omega]
          exact pk_sub (a := a + N) (b := 5) (by omega)
        have e1 : nI (a + N) - (1 : Int32) = nI (a + N - 1) := pk_sub (a := a + N) (b := 1) (by omega)
        have ht4 : fX9_take nb (sbk β) (nI (a + (N - 5))) (4 : Int32) = some (lN (numB β (a + (N - 5)) 4)) := take_in hβ (by omega) (m := 4) (by omega) (by omega)
        rw [if_neg h3, if_pos (nI_le (by omega) (by omega)), e5, e1, ht4, Option.bind_some, crc_ok hβ (by omega) a (N - 5) (by omega) (by omega), Option.bind_some, lN_i, if_pos (ib_nI (by omega) (by omega)), nI_clamp (by omega), sbk_and hβ]
        unfold closed
        rw [show a + (N - 5) = a + N - 5 by omega]
        by_cases h4 : nI (numB β (a + N - 5) 4) = crcR β a (N - 5) (-1) ^^^ (-1 : Int32)
        · rw [if_pos h4, decide_eq_true h4, Bool.true_and]
          by_cases h5 : β (a + N - 1) = 165
          · rw [if_pos (by rw [h5]; decide), decide_eq_true h5]
            rfl
          · rw [if_neg (show ¬ nI (β (a + N - 1)) = (165 : Int32) from fun h => h5 ((nI_eq (b := 165) (by have := hβ (a + N - 1); omega) (by omega)).mp h)), decide_eq_false h5]
            rfl
        · rw [if_neg h4, decide_eq_false h4, Bool.false_and]
          rfl
theorem whole_model1 {β : Nat → Nat} (hβ : ∀ i, β i < 256) {nb : Nat} (h64 : 64 ≤ nb) (hnb : nb ≤ 2048) {a : Nat} (ha : a ≤ nb) (c2 : Nat → Int32) : fX9_whole nb (nI nb) 0 (sbk β) c2 (nI a) = some (nI (wholeN β nb a)) := by
  unfold fX9_whole
  rw [if_pos rfl]
  exact w9_aux hβ h64 hnb ha
theorem whole_model2 {β : Nat → Nat} (hβ : ∀ i, β i < 256) {nb : Nat} (h64 : 64 ≤ nb) (hnb : nb ≤ 2048) {a : Nat} (ha : a ≤ nb) (c1 : Nat → Int32) : fX9_whole nb (nI nb) 1 c1 (sbk β) (nI a) = some (nI (wholeN β nb a)) := by
  unfold fX9_whole
  rw [if_neg (by decide), if_pos rfl]
  exact w9_aux hβ h64 hnb ha
theorem head_class {β : Nat → Nat} (hβ : ∀ i, β i < 256) {nb : Nat} (h64 : 64 ≤ nb) (hnb : nb ≤ 2048) : fX0_hasRightHead nb (sbk β) = some (closed β 0 9) := by
  unfold fX0_hasRightHead
  have h : fX0_isClosedRight nb (sbk β) (0 : Int32) (9 : Int32) = some (closed β 0 9) := closed_class hβ hnb (a := 0) (len := 9) (by omega) (by omega)
  rw [h, Option.bind_some]
theorem gen_class {β : Nat → Nat} (hβ : ∀ i, β i < 256) {nb : Nat} (h64 : 64 ≤ nb) (hnb : nb ≤ 2048) : fX0_number nb (sbk β) (0 : Int32) (4 : Int32) = some (lN (numB β 0 4)) := number_in hβ (by omega) (a := 0) (m := 4) (by omega) (by omega)
theorem gen_model {β : Nat → Nat} (hβ : ∀ i, β i < 256) {nb : Nat} (h64 : 64 ≤ nb) (hnb : nb ≤ 2048) : fX9_take nb (sbk β) (0 : Int32) (4 : Int32) = some (lN (numB β 0 4)) := take_in hβ (by omega) (a := 0) (m := 4) (by omega) (by omega)
theorem right_aux {β : Nat → Nat} (hβ : ∀ i, β i < 256) {nb : Nat} (h64 : 64 ≤ nb) (hnb : nb ≤ 2048) : ((fX9_take nb (sbk β) (4 : Int32) (4 : Int32)).bind fun r_3 => ((fX9_crc nb (sbk β) (0 : Int32) (4 : Int32)).bind fun r_5 => (if (r_3.toInt32) = r_5 then (if (ib (8 : Int32) nb) = true then (if ((sbk β (8 : Int32).toNatClampNeg) &&& (255 : Int32)) = (165 : Int32) then some true else some false) else none) else some false))) = some (closed β 0 9) := by
  have h1 : fX9_take nb (sbk β) (4 : Int32) (4 : Int32) = some (lN (numB β 4 4)) := take_in hβ (by omega) (a := 4) (m := 4) (by omega) (by omega)
  have h2 : fX9_crc nb (sbk β) (0 : Int32) (4 : Int32) = some (crcR β 0 4 (-1) ^^^ (-1 : Int32)) := crc_ok hβ (by omega) 0 4 (by omega) (by omega)
  have h3 : ib (8 : Int32) nb = true := ib_nI (i := 8) (by omega) (by omega)
  have h4 : (8 : Int32).toNatClampNeg = 8 := by decide
  rw [h1, Option.bind_some, h2, Option.bind_some, lN_i, if_pos h3, h4, sbk_and hβ]
  unfold closed
  show _ = some (decide (nI (numB β 4 4) = crcR β 0 4 (-1) ^^^ (-1 : Int32)) && decide (β 8 = 165))
  by_cases h5 : nI (numB β 4 4) = crcR β 0 4 (-1) ^^^ (-1 : Int32)
  · rw [if_pos h5, decide_eq_true h5, Bool.true_and]
    by_cases h6 : β 8 = 165
    · rw [if_pos (by rw [h6]; decide), decide_eq_true h6]
    · rw [if_neg (show ¬ nI (β 8) = (165 : Int32) from fun h => h6 ((nI_eq (b := 165) (by have := hβ 8; omega) (by omega)).mp h)), decide_eq_false h6]
  · rw [if_neg h5, decide_eq_false h5, Bool.false_and]
