/-! 44.enc: records in bytes; laid by wip/whole/encgen.py -/
def hasS (k : Nat) : Bool := k == 2 || k == 3 || k == 4 || k == 6
def hasW (k : Nat) : Bool := k == 1 || k == 2 || k == 3 || k == 6
def hasV (k : Nat) : Bool := k == 1 || k == 2 || k == 6 || k == 7
def lenN (k : Nat) : Nat := 8 + (if hasS k then 2 else 0) + (if hasW k then 1 else 0) + (if hasV k then 8 else 0)
theorem k17 {k : Nat} (h1 : 1 ≤ k) (h7 : k ≤ 7) : k = 1 ∨ k = 2 ∨ k = 3 ∨ k = 4 ∨ k = 5 ∨ k = 6 ∨ k = 7 := by omega
theorem hasS_ok {k : Nat} (h1 : 1 ≤ k) (h7 : k ≤ 7) : fX2_hasSample (nI k) = some (hasS k) := by rcases k17 h1 h7 with rfl | rfl | rfl | rfl | rfl | rfl | rfl <;> decide
theorem hasW_ok {k : Nat} (h1 : 1 ≤ k) (h7 : k ≤ 7) : fX2_hasWell (nI k) = some (hasW k) := by rcases k17 h1 h7 with rfl | rfl | rfl | rfl | rfl | rfl | rfl <;> decide
theorem hasV_ok {k : Nat} (h1 : 1 ≤ k) (h7 : k ≤ 7) : fX2_hasVolume (nI k) = some (hasV k) := by rcases k17 h1 h7 with rfl | rfl | rfl | rfl | rfl | rfl | rfl <;> decide
theorem length_ok {k : Nat} (h1 : 1 ≤ k) (h7 : k ≤ 7) : fX2_length (nI k) = some (nI (lenN k)) := by rcases k17 h1 h7 with rfl | rfl | rfl | rfl | rfl | rfl | rfl <;> decide
theorem lengthOf_ok {k : Nat} (h1 : 1 ≤ k) (h7 : k ≤ 7) : fX9_lengthOf (nI k) = some (nI (lenN k)) := by rcases k17 h1 h7 with rfl | rfl | rfl | rfl | rfl | rfl | rfl <;> decide
def clo (c : Int32) : List Nat := nbs ((c ^^^ (-1 : Int32)).toInt64) 4 ++ [165]
def body (k s w : Nat) (v : Int64) : List Nat := nbs (lN (lenN k)) 2 ++ (nbs (lN k) 1 ++ ((if hasS k then nbs (lN s) 2 else []) ++ ((if hasW k then nbs (lN w) 1 else []) ++ (if hasV k then nbs v 8 else []))))
def enc (k s w : Nat) (v : Int64) : List Nat := body k s w v ++ clo ((body k s w v).foldl cstep (-1))
theorem enc_len (k s w : Nat) (v : Int64) : (enc k s w v).length = lenN k := by
  unfold enc body clo lenN
  cases hasS k <;> cases hasW k <;> cases hasV k <;> simp [nbs_len]
theorem wbs_pos : ∀ (L : List Nat) (A : Aw), (wbs L A).2.2.2.2.1 ≤ A.2.2.2.2.1 + L.length
  | [], A => Nat.le_refl _
  | x :: L, A => by
    rw [wbs_cons]
    have h1 := wbs_pos L (wb A x)
    have h2 := (wb_pos A x).1
    show _ ≤ A.2.2.2.2.1 + (L.length + 1)
    omega
theorem wn1 {nb : Nat} (hnb : nb < 2 ^ 31) (p : Int64) (A : Aw) (cw : Bool) (bl crc : Int32) (hp : A.2.2.2.2.1 + 1 ≤ nb) (hC : Cst A cw bl) : ∃ (cw' : Bool) (bl' : Int32), fX5_writeNumber A.1 cw bl A.2.2.1 A.2.2.2.1 (nI A.2.2.2.2.1) crc nb (sbk A.2.2.2.2.2) p (1 : Int32) = some ((wbs (nbs p 1) A).1, cw', bl', (wbs (nbs p 1) A).2.2.1, (wbs (nbs p 1) A).2.2.2.1, nI (wbs (nbs p 1) A).2.2.2.2.1, (nbs p 1).foldl cstep crc, sbk (wbs (nbs p 1) A).2.2.2.2.2) ∧ Cst (wbs (nbs p 1) A) cw' bl' ∧ (wbs (nbs p 1) A).2.2.2.2.1 ≤ A.2.2.2.2.1 + 1 := writeNumber_ok hnb p 1 A cw bl crc (by omega) hp hC
theorem wn2 {nb : Nat} (hnb : nb < 2 ^ 31) (p : Int64) (A : Aw) (cw : Bool) (bl crc : Int32) (hp : A.2.2.2.2.1 + 2 ≤ nb) (hC : Cst A cw bl) : ∃ (cw' : Bool) (bl' : Int32), fX5_writeNumber A.1 cw bl A.2.2.1 A.2.2.2.1 (nI A.2.2.2.2.1) crc nb (sbk A.2.2.2.2.2) p (2 : Int32) = some ((wbs (nbs p 2) A).1, cw', bl', (wbs (nbs p 2) A).2.2.1, (wbs (nbs p 2) A).2.2.2.1, nI (wbs (nbs p 2) A).2.2.2.2.1, (nbs p 2).foldl cstep crc, sbk (wbs (nbs p 2) A).2.2.2.2.2) ∧ Cst (wbs (nbs p 2) A) cw' bl' ∧ (wbs (nbs p 2) A).2.2.2.2.1 ≤ A.2.2.2.2.1 + 2 := writeNumber_ok hnb p 2 A cw bl crc (by omega) hp hC
theorem wn4 {nb : Nat} (hnb : nb < 2 ^ 31) (p : Int64) (A : Aw) (cw : Bool) (bl crc : Int32) (hp : A.2.2.2.2.1 + 4 ≤ nb) (hC : Cst A cw bl) : ∃ (cw' : Bool) (bl' : Int32), fX5_writeNumber A.1 cw bl A.2.2.1 A.2.2.2.1 (nI A.2.2.2.2.1) crc nb (sbk A.2.2.2.2.2) p (4 : Int32) = some ((wbs (nbs p 4) A).1, cw', bl', (wbs (nbs p 4) A).2.2.1, (wbs (nbs p 4) A).2.2.2.1, nI (wbs (nbs p 4) A).2.2.2.2.1, (nbs p 4).foldl cstep crc, sbk (wbs (nbs p 4) A).2.2.2.2.2) ∧ Cst (wbs (nbs p 4) A) cw' bl' ∧ (wbs (nbs p 4) A).2.2.2.2.1 ≤ A.2.2.2.2.1 + 4 := writeNumber_ok hnb p 4 A cw bl crc (by omega) hp hC
theorem wn8 {nb : Nat} (hnb : nb < 2 ^ 31) (p : Int64) (A : Aw) (cw : Bool) (bl crc : Int32) (hp : A.2.2.2.2.1 + 8 ≤ nb) (hC : Cst A cw bl) : ∃ (cw' : Bool) (bl' : Int32), fX5_writeNumber A.1 cw bl A.2.2.1 A.2.2.2.1 (nI A.2.2.2.2.1) crc nb (sbk A.2.2.2.2.2) p (8 : Int32) = some ((wbs (nbs p 8) A).1, cw', bl', (wbs (nbs p 8) A).2.2.1, (wbs (nbs p 8) A).2.2.2.1, nI (wbs (nbs p 8) A).2.2.2.2.1, (nbs p 8).foldl cstep crc, sbk (wbs (nbs p 8) A).2.2.2.2.2) ∧ Cst (wbs (nbs p 8) A) cw' bl' ∧ (wbs (nbs p 8) A).2.2.2.2.1 ≤ A.2.2.2.2.1 + 8 := writeNumber_ok hnb p 8 A cw bl crc (by omega) hp hC
theorem tail_ok {nb : Nat} (hnb : nb < 2 ^ 31) (A : Aw) (cw : Bool) (bl c : Int32) (hp : A.2.2.2.2.1 + 5 ≤ nb) (hC : Cst A cw bl) : ∃ (cw' : Bool) (bl' c' : Int32), ((fX5_writeNumber A.1 cw bl A.2.2.1 A.2.2.2.1 (nI A.2.2.2.2.1) c nb (sbk A.2.2.2.2.2) ((c ^^^ (-1 : Int32)).toInt64) (4 : Int32)).bind fun (o_up_31, o_cw_32, o_bl_33, o_wr_34, o_fa_35, o_pos_36, o_crc_37, o_bb_38) => ((fX5_writeByte o_up_31 o_cw_32 o_bl_33 o_wr_34 o_fa_35 o_pos_36 nb o_bb_38 (165 : Int32)).bind fun (o_up_40, o_cw_41, o_bl_42, o_wr_43, o_fa_44, o_pos_45, o_bb_46) => some (o_up_40, o_cw_41, o_bl_42, o_wr_43, o_fa_44, o_pos_45, o_crc_37, o_bb_46))) = some ((wbs (clo c) A).1, cw', bl', (wbs (clo c) A).2.2.1, (wbs (clo c) A).2.2.2.1, nI (wbs (clo c) A).2.2.2.2.1, c', sbk (wbs (clo c) A).2.2.2.2.2) ∧ Cst (wbs (clo c) A) cw' bl' := by
  obtain ⟨cw1, bl1, h1, hC1, hp1⟩ := wn4 hnb ((c ^^^ (-1 : Int32)).toInt64) A cw bl c (by omega) hC
  obtain ⟨cw2, bl2, h2, hC2⟩ := writeByte_ok hnb (wbs (nbs ((c ^^^ (-1 : Int32)).toInt64) 4) A) (165 : Int32) (by omega) cw1 bl1 hC1
  have e165 : byteI (165 : Int32) 0 = 165 := by decide
  rw [e165] at h2 hC2
  refine ⟨cw2, bl2, (nbs ((c ^^^ (-1 : Int32)).toInt64) 4).foldl cstep c, ?_, by unfold clo; rw [wbs_app]; exact hC2⟩
  rw [h1, Option.bind_some]
  dsimp only
  rw [h2, Option.bind_some]
  unfold clo
  rw [wbs_app]
  rfl
theorem writeRecord_ok {nb : Nat} (hnb : nb < 2 ^ 31) (k s w : Nat) (v : Int64) (hk1 : 1 ≤ k) (hk7 : k ≤ 7) (hs : s < 2 ^ 31) (hw : w < 2 ^ 31) (A : Aw) (hp : A.2.2.2.2.1 + lenN k ≤ nb) (cw : Bool) (bl : Int32) (hC : Cst A cw bl) : ∃ (cw' : Bool) (bl' c' : Int32), fX5_writeRecord A.1 cw bl A.2.2.1 A.2.2.2.1 (nI A.2.2.2.2.1) nb (sbk A.2.2.2.2.2) (nI k) (nI s) (nI w) v = some ((wbs (enc k s w v) A).1, cw', bl', (wbs (enc k s w v) A).2.2.1, (wbs (enc k s w v) A).2.2.2.1, nI (wbs (enc k s w v) A).2.2.2.2.1, c', sbk (wbs (enc k s w v) A).2.2.2.2.2) ∧ Cst (wbs (enc k s w v) A) cw' bl' := by
  unfold fX5_writeRecord
  have hlen : lenN k = 8 + (if hasS k then 2 else 0) + (if hasW k then 1 else 0) + (if hasV k then 8 else 0) := rfl
  have hll : lenN k < 2 ^ 31 := by rcases k17 hk1 hk7 with rfl | rfl | rfl | rfl | rfl | rfl | rfl <;> decide
  obtain ⟨cw1, bl1, h1, hC1, hp1⟩ := wn2 hnb (lN (lenN k)) A cw bl (-1) (by omega) hC
  obtain ⟨cw2, bl2, h2, hC2, hp2⟩ := wn1 hnb (lN k) (wbs (nbs (lN (lenN k)) 2) A) cw1 bl1 ((nbs (lN (lenN k)) 2).foldl cstep (-1)) (by omega) hC1
  rw [length_ok hk1 hk7, Option.bind_some, nI_l hll, h1, Option.bind_some]
  dsimp only
  rw [nI_l (show k < 2 ^ 31 by omega), h2, Option.bind_some]
  dsimp only
  rw [hasS_ok hk1 hk7, hasW_ok hk1 hk7, hasV_ok hk1 hk7, Option.bind_some, Option.bind_some, nI_l hs, nI_l hw]
  unfold enc body
  cases fS : hasS k <;> cases fW : hasW k <;> cases fV : hasV k
  · rw [fS, fW, fV] at hlen
    simp only [if_true, if_false, Bool.false_eq_true] at hlen
    obtain ⟨cw9, bl9, c9, h9, hC9⟩ := tail_ok hnb (wbs (nbs (lN k) 1) (wbs (nbs (lN (lenN k)) 2) A)) cw2 bl2 ((nbs (lN k) 1).foldl cstep ((nbs (lN (lenN k)) 2).foldl cstep (-1))) (by omega) hC2
    refine ⟨cw9, bl9, c9, ?_, ?_⟩
    · rw [if_pos (show zb false = 0 from rfl)]
      try rw [Option.bind_some]
      rw [if_pos (show zb false = 0 from rfl)]
      try rw [Option.bind_some]
      rw [if_pos (show zb false = 0 from rfl)]
      simp only [if_true, if_false, Bool.false_eq_true, List.nil_append, List.append_nil, wbs_app, List.foldl_append]
      exact h9
    · simp only [if_true, if_false, Bool.false_eq_true, List.nil_append, List.append_nil, wbs_app, List.foldl_append]
      exact hC9
  · rw [fS, fW, fV] at hlen
    simp only [if_true, if_false, Bool.false_eq_true] at hlen
    obtain ⟨cw3, bl3, h3, hC3, hp3⟩ := wn8 hnb v (wbs (nbs (lN k) 1) (wbs (nbs (lN (lenN k)) 2) A)) cw2 bl2 ((nbs (lN k) 1).foldl cstep ((nbs (lN (lenN k)) 2).foldl cstep (-1))) (by omega) hC2
    obtain ⟨cw9, bl9, c9, h9, hC9⟩ := tail_ok hnb (wbs (nbs v 8) (wbs (nbs (lN k) 1) (wbs (nbs (lN (lenN k)) 2) A))) cw3 bl3 ((nbs v 8).foldl cstep ((nbs (lN k) 1).foldl cstep ((nbs (lN (lenN k)) 2).foldl cstep (-1)))) (by omega) hC3
    refine ⟨cw9, bl9, c9, ?_, ?_⟩
    · rw [if_pos (show zb false = 0 from rfl)]
      try rw [Option.bind_some]
      rw [if_pos (show zb false = 0 from rfl)]
      try rw [Option.bind_some]
      rw [if_neg (show ¬ zb true = 0 by decide)]
      rw [h3, Option.bind_some]
      dsimp only
      simp only [if_true, if_false, Bool.false_eq_true, List.nil_append, List.append_nil, wbs_app, List.foldl_append]
      exact h9
    · simp only [if_true, if_false, Bool.false_eq_true, List.nil_append, List.append_nil, wbs_app, List.foldl_append]
      exact hC9
  · rw [fS, fW, fV] at hlen
    simp only [if_true, if_false, Bool.false_eq_true] at hlen
    obtain ⟨cw3, bl3, h3, hC3, hp3⟩ := wn1 hnb (lN w) (wbs (nbs (lN k) 1) (wbs (nbs (lN (lenN k)) 2) A)) cw2 bl2 ((nbs (lN k) 1).foldl cstep ((nbs (lN (lenN k)) 2).foldl cstep (-1))) (by omega) hC2
    obtain ⟨cw9, bl9, c9, h9, hC9⟩ := tail_ok hnb (wbs (nbs (lN w) 1) (wbs (nbs (lN k) 1) (wbs (nbs (lN (lenN k)) 2) A))) cw3 bl3 ((nbs (lN w) 1).foldl cstep ((nbs (lN k) 1).foldl cstep ((nbs (lN (lenN k)) 2).foldl cstep (-1)))) (by omega) hC3
    refine ⟨cw9, bl9, c9, ?_, ?_⟩
    · rw [if_pos (show zb false = 0 from rfl)]
      try rw [Option.bind_some]
      rw [if_neg (show ¬ zb true = 0 by decide)]
      rw [h3, Option.bind_some]
      dsimp only
      try rw [Option.bind_some]
      rw [if_pos (show zb false = 0 from rfl)]
      simp only [if_true, if_false, Bool.false_eq_true, List.nil_append, List.append_nil, wbs_app, List.foldl_append]
      exact h9
    · simp only [if_true, if_false, Bool.false_eq_true, List.nil_append, List.append_nil, wbs_app, List.foldl_append]
      exact hC9
  · rw [fS, fW, fV] at hlen
    simp only [if_true, if_false, Bool.false_eq_true] at hlen
    obtain ⟨cw3, bl3, h3, hC3, hp3⟩ := wn1 hnb (lN w) (wbs (nbs (lN k) 1) (wbs (nbs (lN (lenN k)) 2) A)) cw2 bl2 ((nbs (lN k) 1).foldl cstep ((nbs (lN (lenN k)) 2).foldl cstep (-1))) (by omega) hC2
    obtain ⟨cw4, bl4, h4, hC4, hp4⟩ := wn8 hnb v (wbs (nbs (lN w) 1) (wbs (nbs (lN k) 1) (wbs (nbs (lN (lenN k)) 2) A))) cw3 bl3 ((nbs (lN w) 1).foldl cstep ((nbs (lN k) 1).foldl cstep ((nbs (lN (lenN k)) 2).foldl cstep (-1)))) (by omega) hC3
    obtain ⟨cw9, bl9, c9, h9, hC9⟩ := tail_ok hnb (wbs (nbs v 8) (wbs (nbs (lN w) 1) (wbs (nbs (lN k) 1) (wbs (nbs (lN (lenN k)) 2) A)))) cw4 bl4 ((nbs v 8).foldl cstep ((nbs (lN w) 1).foldl cstep ((nbs (lN k) 1).foldl cstep ((nbs (lN (lenN k)) 2).foldl cstep (-1))))) (by omega) hC4
    refine ⟨cw9, bl9, c9, ?_, ?_⟩
    · rw [if_pos (show zb false = 0 from rfl)]
      try rw [Option.bind_some]
      rw [if_neg (show ¬ zb true = 0 by decide)]
      rw [h3, Option.bind_some]
      dsimp only
      try rw [Option.bind_some]
      rw [if_neg (show ¬ zb true = 0 by decide)]
      rw [h4, Option.bind_some]
      dsimp only
      simp only [if_true, if_false, Bool.false_eq_true, List.nil_append, List.append_nil, wbs_app, List.foldl_append]
      exact h9
    · simp only [if_true, if_false, Bool.false_eq_true, List.nil_append, List.append_nil, wbs_app, List.foldl_append]
      exact hC9
  · rw [fS, fW, fV] at hlen
    simp only [if_true, if_false, Bool.false_eq_true] at hlen
    obtain ⟨cw3, bl3, h3, hC3, hp3⟩ := wn2 hnb (lN s) (wbs (nbs (lN k) 1) (wbs (nbs (lN (lenN k)) 2) A)) cw2 bl2 ((nbs (lN k) 1).foldl cstep ((nbs (lN (lenN k)) 2).foldl cstep (-1))) (by omega) hC2
    obtain ⟨cw9, bl9, c9, h9, hC9⟩ := tail_ok hnb (wbs (nbs (lN s) 2) (wbs (nbs (lN k) 1) (wbs (nbs (lN (lenN k)) 2) A))) cw3 bl3 ((nbs (lN s) 2).foldl cstep ((nbs (lN k) 1).foldl cstep ((nbs (lN (lenN k)) 2).foldl cstep (-1)))) (by omega) hC3
    refine ⟨cw9, bl9, c9, ?_, ?_⟩
    · rw [if_neg (show ¬ zb true = 0 by decide)]
      rw [h3, Option.bind_some]
      dsimp only
      try rw [Option.bind_some]
      rw [if_pos (show zb false = 0 from rfl)]
      try rw [Option.bind_some]
      rw [if_pos (show zb false = 0 from rfl)]
      simp only [if_true, if_false, Bool.false_eq_true, List.nil_append, List.append_nil, wbs_app, List.foldl_append]
      exact h9
    · simp only [if_true, if_false, Bool.false_eq_true, List.nil_append, List.append_nil, wbs_app, List.foldl_append]
      exact hC9
  · rw [fS, fW, fV] at hlen
    simp only [if_true, if_false, Bool.false_eq_true] at hlen
    obtain ⟨cw3, bl3, h3, hC3, hp3⟩ := wn2 hnb (lN s) (wbs (nbs (lN k) 1) (wbs (nbs (lN (lenN k)) 2) A)) cw2 bl2 ((nbs (lN k) 1).foldl cstep ((nbs (lN (lenN k)) 2).foldl cstep (-1))) (by omega) hC2
    obtain ⟨cw4, bl4, h4, hC4, hp4⟩ := wn8 hnb v (wbs (nbs (lN s) 2) (wbs (nbs (lN k) 1) (wbs (nbs (lN (lenN k)) 2) A))) cw3 bl3 ((nbs (lN s) 2).foldl cstep ((nbs (lN k) 1).foldl cstep ((nbs (lN (lenN k)) 2).foldl cstep (-1)))) (by omega) hC3
    obtain ⟨cw9, bl9, c9, h9, hC9⟩ := tail_ok hnb (wbs (nbs v 8) (wbs (nbs (lN s) 2) (wbs (nbs (lN k) 1) (wbs (nbs (lN (lenN k)) 2) A)))) cw4 bl4 ((nbs v 8).foldl cstep ((nbs (lN s) 2).foldl cstep ((nbs (lN k) 1).foldl cstep ((nbs (lN (lenN k)) 2).foldl cstep (-1))))) (by omega) hC4
    refine ⟨cw9, bl9, c9, ?_, ?_⟩
    · rw [if_neg (show ¬ zb true = 0 by decide)]
      rw [h3, Option.bind_some]
      dsimp only
      try rw [Option.bind_some]
      rw [if_pos (show zb false = 0 from rfl)]
      try rw [Option.bind_some]
      rw [if_neg (show ¬ zb true = 0 by decide)]
      rw [h4, Option.bind_some]
      dsimp only
      simp only [if_true, if_false, Bool.false_eq_true, List.nil_append, List.append_nil, wbs_app, List.foldl_append]
      exact h9
    · simp only [if_true, if_false, Bool.false_eq_true, List.nil_append, List.append_nil, wbs_app, List.foldl_append]
      exact hC9
  · rw [fS, fW, fV] at hlen
    simp only [if_true, if_false, Bool.false_eq_true] at hlen
    obtain ⟨cw3, bl3, h3, hC3, hp3⟩ := wn2 hnb (lN s) (wbs (nbs (lN k) 1) (wbs (nbs (lN (lenN k)) 2) A)) cw2 bl2 ((nbs (lN k) 1).foldl cstep ((nbs (lN (lenN k)) 2).foldl cstep (-1))) (by omega) hC2
    obtain ⟨cw4, bl4, h4, hC4, hp4⟩ := wn1 hnb (lN w) (wbs (nbs (lN s) 2) (wbs (nbs (lN k) 1) (wbs (nbs (lN (lenN k)) 2) A))) cw3 bl3 ((nbs (lN s) 2).foldl cstep ((nbs (lN k) 1).foldl cstep ((nbs (lN (lenN k)) 2).foldl cstep (-1)))) (by omega) hC3
    obtain ⟨cw9, bl9, c9, h9, hC9⟩ := tail_ok hnb (wbs (nbs (lN w) 1) (wbs (nbs (lN s) 2) (wbs (nbs (lN k) 1) (wbs (nbs (lN (lenN k)) 2) A)))) cw4 bl4 ((nbs (lN w) 1).foldl cstep ((nbs (lN s) 2).foldl cstep ((nbs (lN k) 1).foldl cstep ((nbs (lN (lenN k)) 2).foldl cstep (-1))))) (by omega) hC4
    refine ⟨cw9, bl9, c9, ?_, ?_⟩
    · rw [if_neg (show ¬ zb true = 0 by decide)]
      rw [h3, Option.bind_some]
      dsimp only
      try rw [Option.bind_some]
      rw [if_neg (show ¬ zb true = 0 by decide)]
      rw [h4, Option.bind_some]
      dsimp only
      try rw [Option.bind_some]
      rw [if_pos (show zb false = 0 from rfl)]
      simp only [if_true, if_false, Bool.false_eq_true, List.nil_append, List.append_nil, wbs_app, List.foldl_append]
      exact h9
    · simp only [if_true, if_false, Bool.false_eq_true, List.nil_append, List.append_nil, wbs_app, List.foldl_append]
      exact hC9
  · rw [fS, fW, fV] at hlen
    simp only [if_true, if_false, Bool.false_eq_true] at hlen
    obtain ⟨cw3, bl3, h3, hC3, hp3⟩ := wn2 hnb (lN s) (wbs (nbs (lN k) 1) (wbs (nbs (lN (lenN k)) 2) A)) cw2 bl2 ((nbs (lN k) 1).foldl cstep ((nbs (lN (lenN k)) 2).foldl cstep (-1))) (by omega) hC2
    obtain ⟨cw4, bl4, h4, hC4, hp4⟩ := wn1 hnb (lN w) (wbs (nbs (lN s) 2) (wbs (nbs (lN k) 1) (wbs (nbs (lN (lenN k)) 2) A))) cw3 bl3 ((nbs (lN s) 2).foldl cstep ((nbs (lN k) 1).foldl cstep ((nbs (lN (lenN k)) 2).foldl cstep (-1)))) (by omega) hC3
    obtain ⟨cw5, bl5, h5, hC5, hp5⟩ := wn8 hnb v (wbs (nbs (lN w) 1) (wbs (nbs (lN s) 2) (wbs (nbs (lN k) 1) (wbs (nbs (lN (lenN k)) 2) A)))) cw4 bl4 ((nbs (lN w) 1).foldl cstep ((nbs (lN s) 2).foldl cstep ((nbs (lN k) 1).foldl cstep ((nbs (lN (lenN k)) 2).foldl cstep (-1))))) (by omega) hC4
    obtain ⟨cw9, bl9, c9, h9, hC9⟩ := tail_ok hnb (wbs (nbs v 8) (wbs (nbs (lN w) 1) (wbs (nbs (lN s) 2) (wbs (nbs (lN k) 1) (wbs (nbs (lN (lenN k)) 2) A))))) cw5 bl5 ((nbs v 8).foldl cstep ((nbs (lN w) 1).foldl cstep ((nbs (lN s) 2).foldl cstep ((nbs (lN k) 1).foldl cstep ((nbs (lN (lenN k)) 2).foldl cstep (-1)))))) (by omega) hC5
    refine ⟨cw9, bl9, c9, ?_, ?_⟩
    · rw [if_neg (show ¬ zb true = 0 by decide)]
      rw [h3, Option.bind_some]
      dsimp only
      try rw [Option.bind_some]
      rw [if_neg (show ¬ zb true = 0 by decide)]
      rw [h4, Option.bind_some]
      dsimp only
      try rw [Option.bind_some]
      rw [if_neg (show ¬ zb true = 0 by decide)]
      rw [h5, Option.bind_some]
      dsimp only
      simp only [if_true, if_false, Bool.false_eq_true, List.nil_append, List.append_nil, wbs_app, List.foldl_append]
      exact h9
    · simp only [if_true, if_false, Bool.false_eq_true, List.nil_append, List.append_nil, wbs_app, List.foldl_append]
      exact hC9
