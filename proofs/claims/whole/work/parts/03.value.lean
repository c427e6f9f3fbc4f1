/-! ===== values ===== -/
def ka_w (V : Nat → Int) (c h : Nat) : Int := (ka_fin c h 6 : Int) - (ka_fin c h 7 : Int) + V (ka_nx c h)
def ka_fo (q : Nat) (w : Nat → Int) (m : Nat → Bool) : Nat → Int
  | 0 => if q = 0 then -100 else 100
  | i + 1 => if m i = true then (if q = 0 then (if ka_fo q w m i < w i then w i else ka_fo q w m i) else (if w i < ka_fo q w m i then w i else ka_fo q w m i)) else ka_fo q w m i
def ka_fq (l : Bool) (c : Nat) : Nat := if l = true then 1 else ka_pl c
def ka_vf (l : Bool) : Nat → Nat → Int
  | 0, _ => 0
  | n + 1, c => if ka_over c = true then (ka_s0 c : Int) - (ka_s1 c : Int) else ka_fo (ka_fq l c) (ka_w (ka_vf l n) c) (ka_mv c) 6
def ka_V (l : Bool) (c : Nat) : Int := ka_vf l 12 c
theorem ka_fo_t {q : Nat} {w : Nat → Int} {m : Nat → Bool} {i : Nat} (h : m i = true) : ka_fo q w m (i + 1) = if q = 0 then (if ka_fo q w m i < w i then w i else ka_fo q w m i) else (if w i < ka_fo q w m i then w i else ka_fo q w m i) := by
  simp only [ka_fo, h, if_true]
theorem ka_fo_f {q : Nat} {w : Nat → Int} {m : Nat → Bool} {i : Nat} (h : m i = false) : ka_fo q w m (i + 1) = ka_fo q w m i := by
  simp only [ka_fo, h]
  rfl
theorem ka_fo_c {q : Nat} {w w' : Nat → Int} {m : Nat → Bool} : ∀ i, (∀ j, j < i → m j = true → w j = w' j) → ka_fo q w m i = ka_fo q w' m i
  | 0, _ => rfl
  | i + 1, h => by
    have ih := ka_fo_c (q := q) i (fun j hj => h j (by omega))
    cases hm : m i with
    | false => rw [ka_fo_f hm, ka_fo_f hm, ih]
    | true => rw [ka_fo_t hm, ka_fo_t hm, ih, h i (by omega) hm]
theorem ka_fo_m {q : Nat} {w : Nat → Int} {m : Nat → Bool} : ∀ i, (∀ j, j < i → m j = true → -100 < w j ∧ w j < 100) → ((∀ j, j < i → m j = false) ∧ ka_fo q w m i = if q = 0 then -100 else 100) ∨ ∃ j, j < i ∧ m j = true ∧ ka_fo q w m i = w j
  | 0, _ => Or.inl ⟨fun j h => absurd h (Nat.not_lt_zero j), rfl⟩
  | i + 1, h => by
    have ih := ka_fo_m (q := q) i (fun j hj => h j (by omega))
    cases hm : m i with
    | false =>
      rw [ka_fo_f hm]
      rcases ih with ⟨a, b⟩ | ⟨j, hj, x, y⟩
      · refine Or.inl ⟨fun j hj => ?_, b⟩
        rcases (by omega : j < i ∨ j = i) with z | z
        · exact a j z
        · rw [z]; exact hm
      · exact Or.inr ⟨j, by omega, x, y⟩
    | true =>
      have hw := h i (by omega) hm
      right
      rw [ka_fo_t hm]
      rcases ih with ⟨a, b⟩ | ⟨j, hj, x, y⟩
      · refine ⟨i, by omega, hm, ?_⟩
        rw [b]
        by_cases hq : q = 0
        · rw [if_pos hq, if_pos hq, if_pos hw.1]
        · rw [if_neg hq, if_neg hq, if_pos hw.2]
      · by_cases hq : q = 0
        · rw [if_pos hq]
          by_cases z : ka_fo q w m i < w i
          · exact ⟨i, by omega, hm, if_pos z⟩
          · exact ⟨j, by omega, x, (if_neg z).trans y⟩
        · rw [if_neg hq]
          by_cases z : w i < ka_fo q w m i
          · exact ⟨i, by omega, hm, if_pos z⟩
          · exact ⟨j, by omega, x, (if_neg z).trans y⟩
theorem ka_any {c : Nat} (hc : ka_ok c) (ho : ka_over c = false) : ∃ h, h < 6 ∧ ka_mv c h = true := by
  have p2 := ka_pl2 hc
  obtain ⟨a, b⟩ := ka_ovF.mp ho
  simp only [ka_s0, ka_s1] at a b
  have key : ∃ h, h < 6 ∧ h / 3 = ka_pl c ∧ 0 < ka_sd c h := by
    rcases (by omega : ka_pl c = 0 ∨ ka_pl c = 1) with e | e
    · rw [e]
      rcases (by omega : 0 < ka_sd c 0 ∨ 0 < ka_sd c 1 ∨ 0 < ka_sd c 2) with z | z | z
      · exact ⟨0, by omega, by omega, z⟩
      · exact ⟨1, by omega, by omega, z⟩
      · exact ⟨2, by omega, by omega, z⟩
    · rw [e]
      rcases (by omega : 0 < ka_sd c 3 ∨ 0 < ka_sd c 4 ∨ 0 < ka_sd c 5) with z | z | z
      · exact ⟨3, by omega, by omega, z⟩
      · exact ⟨4, by omega, by omega, z⟩
      · exact ⟨5, by omega, by omega, z⟩
  obtain ⟨h, h6, x, y⟩ := key
  exact ⟨h, h6, ka_mvI.mpr ⟨x, y, ho⟩⟩
theorem ka_vfs (l : Bool) (n : Nat) (c : Nat) : ka_vf l (n + 1) c = if ka_over c = true then (ka_s0 c : Int) - (ka_s1 c : Int) else ka_fo (ka_fq l c) (ka_w (ka_vf l n) c) (ka_mv c) 6 := by
  simp only [ka_vf]
theorem ka_stab (l : Bool) : ∀ n c, ka_ok c → ka_ln c < n → ka_vf l (n + 1) c = ka_vf l n c
  | 0, c, _, h => by omega
  | n + 1, c, hc, h => by
    rw [ka_vfs, ka_vfs]
    cases ho : ka_over c with
    | true => rw [if_pos rfl, if_pos rfl]
    | false =>
      rw [if_neg (by decide), if_neg (by decide)]
      refine ka_fo_c 6 (fun j hj hm => ?_)
      have s := ka_step hc hj hm
      unfold ka_w
      rw [ka_stab l n _ (ka_okn hc hj hm) (by omega)]
theorem ka_Ve (l : Bool) {c : Nat} (hc : ka_ok c) : ka_V l c = if ka_over c = true then (ka_s0 c : Int) - (ka_s1 c : Int) else ka_fo (ka_fq l c) (ka_w (ka_V l) c) (ka_mv c) 6 := by
  unfold ka_V
  rw [ka_vfs]
  cases ho : ka_over c with
  | true => rw [if_pos rfl, if_pos rfl]
  | false =>
    rw [if_neg (by decide), if_neg (by decide)]
    refine ka_fo_c 6 (fun j hj hm => ?_)
    have s := ka_step hc hj hm
    have t := (ka_X924 hc).2
    have e : ka_vf l 12 (ka_nx c j) = ka_vf l 11 (ka_nx c j) := ka_stab l 11 _ (ka_okn hc hj hm) (by omega)
    unfold ka_w
    show _ = _ + ka_vf l 12 (ka_nx c j)
    rw [e]
theorem ka_vb (l : Bool) : ∀ n c, ka_ok c → ka_ln c < n → -((ka_s0 c : Int) + (ka_s1 c : Int)) ≤ ka_vf l n c ∧ ka_vf l n c ≤ (ka_s0 c : Int) + (ka_s1 c : Int)
  | 0, c, _, h => by omega
  | n + 1, c, hc, h => by
    rw [ka_vfs]
    cases ho : ka_over c with
    | true => rw [if_pos rfl]; omega
    | false =>
      rw [if_neg (by decide)]
      have s6 := hc.2
      have W : ∀ j, j < 6 → ka_mv c j = true → -((ka_s0 c : Int) + (ka_s1 c : Int)) ≤ ka_w (ka_vf l n) c j ∧ ka_w (ka_vf l n) c j ≤ (ka_s0 c : Int) + (ka_s1 c : Int) := by
        intro j hj hm
        have s := ka_step hc hj hm
        have t := ka_sn hc hj hm
        have ih := ka_vb l n _ (ka_okn hc hj hm) (by omega)
        unfold ka_w
        omega
      rcases ka_fo_m (q := ka_fq l c) (w := ka_w (ka_vf l n) c) (m := ka_mv c) 6 (fun j hj hm => by have := W j hj hm; omega) with ⟨a, -⟩ | ⟨j, hj, x, y⟩
      · obtain ⟨j, hj, hm⟩ := ka_any hc ho
        rw [a j hj] at hm
        cases hm
      · rw [y]
        exact W j hj x
theorem ka_Vb (l : Bool) {c : Nat} (hc : ka_ok c) : -6 ≤ ka_V l c ∧ ka_V l c ≤ 6 := by
  have := ka_vb l 12 c hc (by have := (ka_X924 hc).2; omega)
  have := hc.2
  unfold ka_V
  omega
theorem ka_wb (l : Bool) {c h : Nat} (hc : ka_ok c) (hh : h < 6) (hm : ka_mv c h = true) : -12 ≤ ka_w (ka_V l) c h ∧ ka_w (ka_V l) c h ≤ 12 ∧ ka_fin c h 6 ≤ 6 ∧ ka_fin c h 7 ≤ 6 := by
  have := ka_Vb l (ka_okn hc hh hm)
  have := ka_sn hc hh hm
  have := hc.2
  unfold ka_w
  omega
theorem ka_Vj (l : Bool) {c : Nat} (hc : ka_ok c) (ho : ka_over c = false) : ∃ j, j < 6 ∧ ka_mv c j = true ∧ ka_V l c = ka_w (ka_V l) c j := by
  rw [ka_Ve l hc, ho, if_neg (by decide)]
  rcases ka_fo_m (q := ka_fq l c) (w := ka_w (ka_V l) c) (m := ka_mv c) 6 (fun j hj hm => by have := ka_wb l hc hj hm; omega) with ⟨a, -⟩ | h
  · obtain ⟨j, hj, hm⟩ := ka_any hc ho
    rw [a j hj] at hm
    cases hm
  · exact h
/-! the best house, and the length -/
def ka_bh (c : Nat) : Nat → Nat → Nat
  | 0, _ => 6
  | n + 1, h => if ka_mv c h = true ∧ ka_w (ka_V false) c h = ka_V false c then h else ka_bh c n (h + 1)
def ka_b (c : Nat) : Nat := ka_bh c 6 0
theorem ka_bhI (c : Nat) : ∀ n h, h + n = 6 → (ka_bh c n h = 6 ∧ ∀ j, h ≤ j → j < 6 → ¬ (ka_mv c j = true ∧ ka_w (ka_V false) c j = ka_V false c)) ∨ (ka_bh c n h < 6 ∧ ka_mv c (ka_bh c n h) = true)
  | 0, h, e => Or.inl ⟨rfl, fun j a b => by omega⟩
  | n + 1, h, e => by
    simp only [ka_bh]
    by_cases z : ka_mv c h = true ∧ ka_w (ka_V false) c h = ka_V false c
    · rw [if_pos z]
      exact Or.inr ⟨by omega, z.1⟩
    · rw [if_neg z]
      rcases ka_bhI c n (h + 1) (by omega) with ⟨a, b⟩ | x
      · refine Or.inl ⟨a, fun j hj h6 => ?_⟩
        rcases (by omega : j = h ∨ h + 1 ≤ j) with y | y
        · rw [y]; exact z
        · exact b j y h6
      · exact Or.inr x
theorem ka_bN {c : Nat} (hc : ka_ok c) (ho : ka_over c = false) : ka_b c < 6 ∧ ka_mv c (ka_b c) = true := by
  rcases ka_bhI c 6 0 rfl with ⟨-, b⟩ | x
  · obtain ⟨j, hj, x, y⟩ := ka_Vj false hc ho
    exact absurd ⟨x, y.symm⟩ (b j (Nat.zero_le j) hj)
  · exact x
theorem ka_bO {c : Nat} (ho : ka_over c = true) : ka_b c = 6 := by
  rcases ka_bhI c 6 0 rfl with ⟨a, -⟩ | ⟨-, x⟩
  · exact a
  · have := (ka_mvI.mp x).2.2
    rw [ho] at this
    cases this
def ka_le : Nat → Nat → Nat
  | 0, _ => 0
  | n + 1, c => if ka_over c = true then 0 else ka_le n (ka_nx c (ka_b c)) + 1
theorem ka_leb : ∀ n c, ka_le n c ≤ n
  | 0, _ => Nat.le_refl _
  | n + 1, c => by
    have := ka_leb n (ka_nx c (ka_b c))
    simp only [ka_le]
    split <;> omega
/-! Int32 by integers -/
def ka_I (z : Int) : Int32 := Int32.ofInt z
theorem ka_In (n : Nat) : nI n = ka_I n := Int32.ofInt_eq_ofNat.symm
theorem ka_Ia (a b : Int) : ka_I a + ka_I b = ka_I (a + b) := (Int32.ofInt_add a b).symm
theorem ka_Is (a b : Int) : ka_I a - ka_I b = ka_I (a - b) := (Int32.ofInt_sub a b).symm
theorem ka_Im (a b : Int) : ka_I a * ka_I b = ka_I (a * b) := (Int32.ofInt_mul a b).symm
theorem ka_It {a : Int} (h : -2 ^ 31 ≤ a) (h' : a < 2 ^ 31) : (ka_I a).toInt = a := Int32.toInt_ofInt_of_le h h'
theorem ka_Il {a b : Int} (h : -2 ^ 31 ≤ a) (h' : a < 2 ^ 31) (g : -2 ^ 31 ≤ b) (g' : b < 2 ^ 31) : ka_I a < ka_I b ↔ a < b := by
  rw [Int32.lt_iff_toInt_lt, ka_It h h', ka_It g g']
theorem ka_Ie {a b : Int} (h : -2 ^ 31 ≤ a) (h' : a < 2 ^ 31) (g : -2 ^ 31 ≤ b) (g' : b < 2 ^ 31) : ka_I a ≤ ka_I b ↔ a ≤ b := by
  rw [Int32.le_iff_toInt_le, ka_It h h', ka_It g g']
theorem ka_Iq {a b : Int} (h : -2 ^ 31 ≤ a) (h' : a < 2 ^ 31) (g : -2 ^ 31 ≤ b) (g' : b < 2 ^ 31) : ka_I a = ka_I b ↔ a = b := by
  rw [← Int32.toInt_inj, ka_It h h', ka_It g g']
/-! the reference's code of a pair of values -/
def ka_k (c : Nat) : Nat := (64 * (ka_V false c + 16) + (ka_V true c + 16)).toNat
theorem ka_kb {c : Nat} (hc : ka_ok c) : 0 < ka_k c ∧ ka_k c < 2048 ∧ (ka_k c : Int) = 64 * (ka_V false c + 16) + (ka_V true c + 16) ∧ ((ka_k c / 64 : Nat) : Int) = ka_V false c + 16 ∧ ((ka_k c % 64 : Nat) : Int) = ka_V true c + 16 := by
  have a := ka_Vb false hc
  have b := ka_Vb true hc
  unfold ka_k
  omega
