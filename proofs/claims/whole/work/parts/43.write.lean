/-! 43.write: bytes written one behind the other while the power lasts; the class's pen and the reference's row -/
abbrev Aw : Type := Bool × Option Nat × Int32 × Int32 × Nat × (Nat → Nat)
def updN (β : Nat → Nat) (i x : Nat) : Nat → Nat := fun j => if j = i then x else β j
def wb (A : Aw) (x : Nat) : Aw := match A with
  | (true, none, wr, fa, i, β) => (true, none, wr + 1, fa, i + 1, updN β i x)
  | (true, some 0, wr, fa, i, β) => (false, none, wr, fa + 1, i, β)
  | (true, some 1, wr, fa, i, β) => (false, none, wr + 1, fa + 1, i + 1, updN β i x)
  | (true, some (k + 2), wr, fa, i, β) => (true, some (k + 1), wr + 1, fa, i + 1, updN β i x)
  | (false, l, wr, fa, i, β) => (false, l, wr, fa, i, β)
def wbs (L : List Nat) (A : Aw) : Aw := L.foldl wb A
theorem wbs_app (L M : List Nat) (A : Aw) : wbs (L ++ M) A = wbs M (wbs L A) := List.foldl_append
theorem wbs_cons (x : Nat) (L : List Nat) (A : Aw) : wbs (x :: L) A = wbs L (wb A x) := rfl
def LF (cw : Bool) (bl : Int32) (l : Option Nat) : Prop := match l with
  | none => cw = false
  | some k => cw = true ∧ bl = nI k ∧ k < 2 ^ 31
def Cst (A : Aw) (cw : Bool) (bl : Int32) : Prop := LF cw bl A.2.1 ∧ (A.1 = false → A.2.1 = none)
theorem sbk_upd (β : Nat → Nat) (i x : Nat) : upd (sbk β) i (sb_b x) = sbk (updN β i x) := by
  funext j
  by_cases h : j = i
  · subst h
    rw [pk_us]
    unfold sbk updN
    rw [if_pos rfl]
  · rw [pk_un h]
    unfold sbk updN
    rw [if_neg h]
theorem put_ok {β : Nat → Nat} {nb i : Nat} (hnb : nb < 2 ^ 31) (hi : i < nb) (o : Int32) : fX0_put nb (sbk β) (nI i) o = some (sbk (updN β i (byteI o 0))) := by
  unfold fX0_put
  rw [if_neg (nI_pos (by omega)), if_neg (nI_ge hi hnb), if_pos (ib_nI hi hnb), nI_clamp (by omega), vp_i8, sbk_upd]
theorem wb_pos (A : Aw) (x : Nat) : (wb A x).2.2.2.2.1 ≤ A.2.2.2.2.1 + 1 ∧ A.2.2.2.2.1 ≤ (wb A x).2.2.2.2.1 := by
  obtain ⟨up, l, wr, fa, i, β⟩ := A
  cases up
  · exact ⟨Nat.le_succ _, Nat.le_refl _⟩
  · match l with
    | none => exact ⟨Nat.le_refl _, Nat.le_succ _⟩
    | some 0 => exact ⟨Nat.le_succ _, Nat.le_refl _⟩
    | some 1 => exact ⟨Nat.le_refl _, Nat.le_succ _⟩
    | some (k + 2) => exact ⟨Nat.le_refl _, Nat.le_succ _⟩
theorem writeByte_ok {nb : Nat} (hnb : nb < 2 ^ 31) (A : Aw) (o : Int32) (hi : A.2.2.2.2.1 < nb) (cw : Bool) (bl : Int32) (h : Cst A cw bl) : ∃ (cw' : Bool) (bl' : Int32), fX5_writeByte A.1 cw bl A.2.2.1 A.2.2.2.1 (nI A.2.2.2.2.1) nb (sbk A.2.2.2.2.2) o = some ((wb A (byteI o 0)).1, cw', bl', (wb A (byteI o 0)).2.2.1, (wb A (byteI o 0)).2.2.2.1, nI (wb A (byteI o 0)).2.2.2.2.1, sbk (wb A (byteI o 0)).2.2.2.2.2) ∧ Cst (wb A (byteI o 0)) cw' bl' := by
  obtain ⟨up, l, wr, fa, i, β⟩ := A
  obtain ⟨h1, h2⟩ := h
  unfold fX5_writeByte fX6_letByteThrough
  cases up
  · have hl : l = none := h2 rfl
    subst hl
    have hc : cw = false := h1
    subst hc
    exact ⟨false, bl, rfl, rfl, fun _ => rfl⟩
  · match l, h1 with
    | none, h1 =>
      have hc : cw = false := h1
      subst hc
      refine ⟨false, bl - 0, ?_, rfl, fun h => by cases h⟩
      dsimp only at hi ⊢
      rw [if_neg (by decide), if_pos (by decide), Option.bind_some]
      dsimp only
      rw [if_neg (by decide), put_ok hnb hi, Option.bind_some, nI_1]
      rfl
    | some 0, h1 =>
      obtain ⟨hc, hb, hk⟩ := h1
      subst hc
      subst hb
      exact ⟨false, nI 0, rfl, rfl, fun _ => rfl⟩
    | some 1, h1 =>
      obtain ⟨hc, hb, hk⟩ := h1
      subst hc
      subst hb
      refine ⟨false, nI 1 - 1, ?_, rfl, fun _ => rfl⟩
      dsimp only at hi ⊢
      rw [if_neg (by decide), if_neg (by decide), if_neg (by decide), if_pos (by decide), Option.bind_some]
      dsimp only
      rw [if_neg (by decide), put_ok hnb hi, Option.bind_some, nI_1]
      rfl
    | some (k + 2), h1 =>
      obtain ⟨hc, hb, hk⟩ := h1
      subst hc
      subst hb
      refine ⟨true, nI (k + 1), ?_, ⟨rfl, rfl, by omega⟩, fun h => by cases h⟩
      have e1 : nI (k + 2) - (1 : Int32) = nI (k + 1) := nI_pred (k + 1)
      dsimp only at hi ⊢
      rw [if_neg (by decide), if_neg (by decide), if_neg (nI_ne0 (by omega) hk), e1, if_neg (nI_ne0 (by omega) (by omega)), Option.bind_some]
      dsimp only
      rw [if_neg (by decide), put_ok hnb hi, Option.bind_some, nI_1]
      rfl
def nbs (p : Int64) : Nat → List Nat
  | 0 => []
  | m + 1 => byteL p m :: nbs p m
theorem nbs_len (p : Int64) : ∀ m, (nbs p m).length = m
  | 0 => rfl
  | m + 1 => by show (nbs p m).length + 1 = m + 1; rw [nbs_len p m]
theorem byte_nI {x : Nat} (h : x < 256) : byteI (nI x) 0 = x := by
  unfold byteI
  rw [pk_tn (by omega)]
  show x / 1 % 256 = x
  omega
theorem wnum {nb : Nat} (hnb : nb < 2 ^ 31) (p : Int64) : ∀ (m n : Nat) (A : Aw) (cw : Bool) (bl crc : Int32), m ≤ 8 → m < n → A.2.2.2.2.1 + m ≤ nb → Cst A cw bl → ∃ (cw' : Bool) (bl' : Int32), fX5_writeNumber_5 nb p n (nI m - (1 : Int32)) (nI A.2.2.2.2.1) crc A.1 cw bl A.2.2.1 A.2.2.2.1 (sbk A.2.2.2.2.2) = some ((wbs (nbs p m) A).1, cw', bl', (wbs (nbs p m) A).2.2.1, (wbs (nbs p m) A).2.2.2.1, nI (wbs (nbs p m) A).2.2.2.2.1, (nbs p m).foldl cstep crc, sbk (wbs (nbs p m) A).2.2.2.2.2) ∧ Cst (wbs (nbs p m) A) cw' bl' ∧ (wbs (nbs p m) A).2.2.2.2.1 ≤ A.2.2.2.2.1 + m
  | 0, n + 1, A, cw, bl, crc, _, _, _, hC => by
    refine ⟨cw, bl, ?_, hC, Nat.le_refl _⟩
    unfold fX5_writeNumber_5
    rw [if_pos (by decide)]
    rfl
  | m + 1, n + 1, A, cw, bl, crc, h8, hn, hp, hC => by
    unfold fX5_writeNumber_5
    obtain ⟨cw1, bl1, h1, hC1⟩ := writeByte_ok hnb A (nI (byteL p m)) (by omega) cw bl hC
    rw [byte_nI (byteL_lt p m)] at h1 hC1
    obtain ⟨hq1, hq2⟩ := wb_pos A (byteL p m)
    obtain ⟨cw2, bl2, h2, hC2, hp2⟩ := wnum hnb p m n (wb A (byteL p m)) cw1 bl1 (cstep crc (byteL p m)) (by omega) (by omega) (by omega) hC1
    refine ⟨cw2, bl2, ?_, hC2, by show (wbs (nbs p m) (wb A (byteL p m))).2.2.2.2.1 ≤ _; omega⟩
    rw [nI_pred, if_neg (nI_pos (by omega)), oct_ok p m (by omega), step_ok crc _ (byteL_lt p m), Option.bind_some, h1, Option.bind_some]
    have e : nI m + (-1 : Int32) = nI m - (1 : Int32) := by
      rw [Int32.sub_eq_add_neg]
    dsimp only
    rw [e]
    exact h2
theorem writeNumber_ok {nb : Nat} (hnb : nb < 2 ^ 31) (p : Int64) (m : Nat) (A : Aw) (cw : Bool) (bl crc : Int32) (hm : m ≤ 8) (hp : A.2.2.2.2.1 + m ≤ nb) (hC : Cst A cw bl) : ∃ (cw' : Bool) (bl' : Int32), fX5_writeNumber A.1 cw bl A.2.2.1 A.2.2.2.1 (nI A.2.2.2.2.1) crc nb (sbk A.2.2.2.2.2) p (nI m) = some ((wbs (nbs p m) A).1, cw', bl', (wbs (nbs p m) A).2.2.1, (wbs (nbs p m) A).2.2.2.1, nI (wbs (nbs p m) A).2.2.2.2.1, (nbs p m).foldl cstep crc, sbk (wbs (nbs p m) A).2.2.2.2.2) ∧ Cst (wbs (nbs p m) A) cw' bl' ∧ (wbs (nbs p m) A).2.2.2.2.1 ≤ A.2.2.2.2.1 + m := wnum hnb p m FU A cw bl crc hm (by show m < 4096; omega) hp hC
/-- the reference's side -/
def MF (l : Option Nat) : Int32 := match l with
  | none => -1
  | some k => nI k
def RowIs (r : Nat → Int32) : Nat → List Nat → Prop
  | _, [] => True
  | j, x :: t => r j = sb_b x ∧ RowIs r (j + 1) t
def okL (l : Option Nat) : Prop := ∀ k, l = some k → k < 2 ^ 31
theorem okL_wb (A : Aw) (x : Nat) (h : okL A.2.1) : okL (wb A x).2.1 := by
  obtain ⟨up, l, wr, fa, i, β⟩ := A
  cases up
  · exact h
  · match l, h with
    | none, h => exact fun k e => by cases e
    | some 0, h => exact fun k e => by cases e
    | some 1, h => exact fun k e => by cases e
    | some (k + 2), h => exact fun j e => by cases e; have := h (k + 2) rfl; omega
theorem wbs_down : ∀ (L : List Nat) (A : Aw), A.1 = false → wbs L A = A
  | [], _, _ => rfl
  | x :: L, (false, l, wr, fa, i, β), _ => by
    rw [wbs_cons]
    exact wbs_down L (false, l, wr, fa, i, β) rfl
theorem mwrite1 {nb : Nat} (hnb : nb < 2 ^ 31) (l : Option Nat) (wr fa : Int32) (i : Nat) (β : Nat → Nat) (x : Nat) (hi : i < nb) (hl : okL l) (c2 : Nat → Int32) : fX9_write nb false (MF l) wr fa (sbk β) c2 0 (nI i) (sb_b x) = some ((wb (true, l, wr, fa, i, β) x).1, !(wb (true, l, wr, fa, i, β) x).1, MF (wb (true, l, wr, fa, i, β) x).2.1, (wb (true, l, wr, fa, i, β) x).2.2.1, (wb (true, l, wr, fa, i, β) x).2.2.2.1, sbk (wb (true, l, wr, fa, i, β) x).2.2.2.2.2, c2) := by
  unfold fX9_write
  rw [if_pos (show (0 : Int32) = 0 from rfl), if_pos (ib_nI hi hnb), nI_clamp (by omega), vp_sb, sbk_upd]
  match l, hl with
  | none, hl => rfl
  | some 0, hl => rfl
  | some 1, hl => rfl
  | some (k + 2), hl =>
    have hk := hl (k + 2) rfl
    have e1 : nI (k + 2) - (1 : Int32) = nI (k + 1) := nI_pred (k + 1)
    rw [show MF (some (k + 2)) = nI (k + 2) from rfl, if_neg (nI_ne0 (by omega) hk), if_neg (nI_nle (by omega) hk), e1, if_neg (nI_ne0 (by omega) (by omega))]
    rfl
theorem mwrite2 {nb : Nat} (hnb : nb < 2 ^ 31) (l : Option Nat) (wr fa : Int32) (i : Nat) (β : Nat → Nat) (x : Nat) (hi : i < nb) (hl : okL l) (c1 : Nat → Int32) : fX9_write nb false (MF l) wr fa c1 (sbk β) 1 (nI i) (sb_b x) = some ((wb (true, l, wr, fa, i, β) x).1, !(wb (true, l, wr, fa, i, β) x).1, MF (wb (true, l, wr, fa, i, β) x).2.1, (wb (true, l, wr, fa, i, β) x).2.2.1, (wb (true, l, wr, fa, i, β) x).2.2.2.1, c1, sbk (wb (true, l, wr, fa, i, β) x).2.2.2.2.2) := by
  unfold fX9_write
  rw [if_neg (show ¬ (1 : Int32) = 0 by decide), if_pos (show (1 : Int32) = 1 from rfl), if_pos (ib_nI hi hnb), nI_clamp (by omega), vp_sb, sbk_upd]
  match l, hl with
  | none, hl => rfl
  | some 0, hl => rfl
  | some 1, hl => rfl
  | some (k + 2), hl =>
    have hk := hl (k + 2) rfl
    have e1 : nI (k + 2) - (1 : Int32) = nI (k + 1) := nI_pred (k + 1)
    rw [show MF (some (k + 2)) = nI (k + 2) from rfl, if_neg (nI_ne0 (by omega) hk), if_neg (nI_nle (by omega) hk), e1, if_neg (nI_ne0 (by omega) (by omega))]
    rfl
theorem wb_up_pos {A : Aw} {x : Nat} (h : (wb A x).1 = true) : A.1 = true ∧ (wb A x).2.2.2.2.1 = A.2.2.2.2.1 + 1 := by
  obtain ⟨up, l, wr, fa, i, β⟩ := A
  cases up
  · cases h
  · match l, h with
    | none, _ => exact ⟨rfl, rfl⟩
    | some 0, h => cases h
    | some 1, h => cases h
    | some (k + 2), _ => exact ⟨rfl, rfl⟩
theorem wrow1 {nb : Nat} (hnb : nb < 2 ^ 31) {r : Nat → Int32} {at_ Z : Nat} (hZ : Z ≤ 32) (haz : at_ + Z ≤ nb) (c2 : Nat → Int32) : ∀ (L : List Nat) (j n : Nat) (l : Option Nat) (wr fa : Int32) (β : Nat → Nat), okL l → RowIs r j L → j + L.length = Z → L.length < n →
    fX9_writeRow_2 nb (nI Z) r 0 (nI at_) n (nI j) false (MF l) wr fa (sbk β) c2 = some ((wbs L (true, l, wr, fa, at_ + j, β)).1, !(wbs L (true, l, wr, fa, at_ + j, β)).1, MF (wbs L (true, l, wr, fa, at_ + j, β)).2.1, (wbs L (true, l, wr, fa, at_ + j, β)).2.2.1, (wbs L (true, l, wr, fa, at_ + j, β)).2.2.2.1, sbk (wbs L (true, l, wr, fa, at_ + j, β)).2.2.2.2.2, c2)
  | [], j, n + 1, l, wr, fa, β, _, _, hj, _ => by
    unfold fX9_writeRow_2
    rw [if_pos (nI_le (by simp at hj; omega) (by omega))]
    rfl
  | x :: L, j, n + 1, l, wr, fa, β, hl, hr, hj, hn => by
    have hj' : j + (L.length + 1) = Z := hj
    have hn' : L.length + 1 < n + 1 := hn
    unfold fX9_writeRow_2
    have hw := mwrite1 hnb l wr fa (at_ + j) β x (by omega) hl c2
    rw [if_neg (nI_ge (by omega) (by omega)), if_pos (ib_nI (by omega) (by omega)), nI_add, nI_clamp (by omega), hr.1, hw, Option.bind_some]
    dsimp only
    rw [wbs_cons]
    have hok := okL_wb (true, l, wr, fa, at_ + j, β) x hl
    have hup := wb_up_pos (A := (true, l, wr, fa, at_ + j, β)) (x := x)
    generalize wb (true, l, wr, fa, at_ + j, β) x = B at hok hup ⊢
    obtain ⟨up, l2, wr2, fa2, i2, β2⟩ := B
    cases up
    · rw [wbs_down L _ rfl]
      rfl
    · have e2 : i2 = at_ + (j + 1) := (hup rfl).2
      subst e2
      dsimp only
      rw [if_neg (by decide), nI_1]
      exact wrow1 hnb hZ haz c2 L (j + 1) n l2 wr2 fa2 β2 hok hr.2 (by omega) (by omega)
theorem wrow2 {nb : Nat} (hnb : nb < 2 ^ 31) {r : Nat → Int32} {at_ Z : Nat} (hZ : Z ≤ 32) (haz : at_ + Z ≤ nb) (c1 : Nat → Int32) : ∀ (L : List Nat) (j n : Nat) (l : Option Nat) (wr fa : Int32) (β : Nat → Nat), okL l → RowIs r j L → j + L.length = Z → L.length < n →
    fX9_writeRow_2 nb (nI Z) r 1 (nI at_) n (nI j) false (MF l) wr fa c1 (sbk β) = some ((wbs L (true, l, wr, fa, at_ + j, β)).1, !(wbs L (true, l, wr, fa, at_ + j, β)).1, MF (wbs L (true, l, wr, fa, at_ + j, β)).2.1, (wbs L (true, l, wr, fa, at_ + j, β)).2.2.1, (wbs L (true, l, wr, fa, at_ + j, β)).2.2.2.1, c1, sbk (wbs L (true, l, wr, fa, at_ + j, β)).2.2.2.2.2)
  | [], j, n + 1, l, wr, fa, β, _, _, hj, _ => by
    unfold fX9_writeRow_2
    rw [if_pos (nI_le (by simp at hj; omega) (by omega))]
    rfl
  | x :: L, j, n + 1, l, wr, fa, β, hl, hr, hj, hn => by
    have hj' : j + (L.length + 1) = Z := hj
    have hn' : L.length + 1 < n + 1 := hn
    unfold fX9_writeRow_2
    have hw := mwrite2 hnb l wr fa (at_ + j) β x (by omega) hl c1
    rw [if_neg (nI_ge (by omega) (by omega)), if_pos (ib_nI (by omega) (by omega)), nI_add, nI_clamp (by omega), hr.1, hw, Option.bind_some]
    dsimp only
    rw [wbs_cons]
    have hok := okL_wb (true, l, wr, fa, at_ + j, β) x hl
    have hup := wb_up_pos (A := (true, l, wr, fa, at_ + j, β)) (x := x)
    generalize wb (true, l, wr, fa, at_ + j, β) x = B at hok hup ⊢
    obtain ⟨up, l2, wr2, fa2, i2, β2⟩ := B
    cases up
    · rw [wbs_down L _ rfl]
      rfl
    · have e2 : i2 = at_ + (j + 1) := (hup rfl).2
      subst e2
      dsimp only
      rw [if_neg (by decide), nI_1]
      exact wrow2 hnb hZ haz c1 L (j + 1) n l2 wr2 fa2 β2 hok hr.2 (by omega) (by omega)
