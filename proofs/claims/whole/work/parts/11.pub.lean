/-! ===== the relation, and what the public methods need ===== -/
theorem ka_gt {x : Int32} {n : Nat} (h : nI (n + 1) ≤ x) (hn : n + 1 < 2 ^ 31) : nI n < x ∧ ¬ x ≤ nI n ∧ ¬ x < 0 ∧ ¬ x < nI (n + 1) := by
  rw [Int32.le_iff_toInt_le, nI_toInt hn] at h
  rw [Int32.lt_iff_toInt_lt, Int32.le_iff_toInt_le, Int32.lt_iff_toInt_lt, Int32.lt_iff_toInt_lt, nI_toInt hn, nI_toInt (by omega), show (0 : Int32).toInt = 0 by decide]
  omega
theorem ka_pob {c : Nat} (hc : ka_ok c) : ka_po c ≤ 25 := by
  have := hc.2
  exact (ka_psa _ (ka_pl2 hc) _ (by omega) _ (by omega) (by omega)).1
theorem ka_mkok {z : Nat} (hp : ka_pl z < 2) (hs : ka_s0 z + ka_s1 z ≤ 6) : ka_ok z := by
  refine ⟨?_, hs⟩
  unfold ka_pl at hp
  omega
theorem ka_pco {c h n : Nat} (hc : ka_ok c) (hh : h < 6) (hn : n < 7) (hs : ka_s0 c + ka_s1 c - ka_sd c h + n ≤ 6) : ka_ok (ka_pc c h n) ∧ ka_po (ka_pc c h n) ≤ ka_po c + 11 ∧ ∀ A B bd, ka_A bd (ka_st c) A B → ka_A (upd bd h (nI n)) (ka_st (ka_pc c h n)) A B := by
  obtain ⟨d, e⟩ := ka_pcd (c := c) hh hn
  have d0 := d 0 (by omega)
  have d1 := d 1 (by omega)
  have d2 := d 2 (by omega)
  have d3 := d 3 (by omega)
  have d4 := d 4 (by omega)
  have d5 := d 5 (by omega)
  have p2 := ka_pl2 hc
  have s6 := hc.2
  have b : ka_sd c h ≤ ka_s0 c + ka_s1 c := by
    simp only [ka_s0, ka_s1]
    exact ka_6 (P := fun h => ka_sd c h ≤ ka_sd c 0 + ka_sd c 1 + ka_sd c 2 + (ka_sd c 3 + ka_sd c 4 + ka_sd c 5)) (by omega) (by omega) (by omega) (by omega) (by omega) (by omega) hh
  have key : (ka_s1 (ka_pc c h n) = ka_s1 c ∧ ka_s0 (ka_pc c h n) + ka_sd c h = ka_s0 c + n) ∨ (ka_s0 (ka_pc c h n) = ka_s0 c ∧ ka_s1 (ka_pc c h n) + ka_sd c h = ka_s1 c + n) := by
    simp only [ka_s0, ka_s1]
    rw [d0, d1, d2, d3, d4, d5]
    rcases (by omega : h = 0 ∨ h = 1 ∨ h = 2 ∨ h = 3 ∨ h = 4 ∨ h = 5) with rfl | rfl | rfl | rfl | rfl | rfl <;> simp <;> omega
  refine ⟨ka_mkok (by omega) (by omega), ?_, fun A B bd hA => ?_⟩
  · unfold ka_po
    rw [e]
    rcases key with ⟨k1, k2⟩ | ⟨k1, k2⟩
    · rw [k1]
      exact (ka_psb p2 (by omega) (by omega) (by omega)).1 (by omega) (by omega)
    · rw [k1]
      exact (ka_psb p2 (by omega) (by omega) (by omega)).2 (by omega) (by omega)
  · refine ka_Ae (ka_Au (i := h) (v := n) hA (by rw [ka_bs6 hh]; rfl)) (fun j hj => ?_) (fun j hj => rfl)
    unfold ka_up ka_st
    by_cases j6 : j < 6
    · rw [if_pos j6, d j j6, if_pos j6]
    · rw [if_neg j6, if_neg (by omega), if_neg j6]
theorem ka_tco {c q : Nat} (hc : ka_ok c) (hq : q < 2) : ka_ok (ka_tc c q) ∧ ka_po (ka_tc c q) ≤ ka_po c + 11 ∧ ∀ A B bd, ka_A bd (ka_st c) A B → ka_A bd (ka_st (ka_tc c q)) A B := by
  obtain ⟨d, e⟩ := ka_tcd (c := c) (p := q)
  have p2 := ka_pl2 hc
  have s6 := hc.2
  have e0 : ka_s0 (ka_tc c q) = ka_s0 c := by simp only [ka_s0, d 0 (by omega), d 1 (by omega), d 2 (by omega)]
  have e1 : ka_s1 (ka_tc c q) = ka_s1 c := by simp only [ka_s1, d 3 (by omega), d 4 (by omega), d 5 (by omega)]
  refine ⟨ka_mkok (by omega) (by omega), ?_, fun A B bd hA => ka_Ae hA (fun j hj => ?_) (fun j hj => rfl)⟩
  · unfold ka_po
    rw [e, e0, e1]
    rcases (by omega : q = ka_pl c ∨ q = 1 - ka_pl c) with z | z
    · rw [z]; omega
    · rw [z]
      exact (ka_psa _ p2 _ (by omega) _ (by omega) (by omega)).2
  · unfold ka_st
    by_cases j6 : j < 6
    · rw [if_pos j6, if_pos j6, d j j6]
    · rw [if_neg j6, if_neg j6]
/-! counting moves -/
def ka_cn (c : Nat) : Nat → Nat
  | 0 => 0
  | i + 1 => if ka_mv c i = true then ka_cn c i + 1 else ka_cn c i
section
variable {fm fx fk : Int32} {bd rc lb fl le lo tr li : Nat → Int32}
theorem xa_ih {post : Int32 → Prop} {h : Nat} (hh : h < 6) (H : post 1) : wpX_isHouse post (nI h) := br_f (nI_pos (by omega)) (br_f (nI_ge (b := 6) hh (by omega)) H)
theorem xa_sh {post : Int32 → Prop} {c A B : Nat} (hA : ka_A bd (ka_st c) A B) (H : post (nI (ka_s0 c + ka_s1 c))) : wpX_seedsInHouses post (fm, fx, fk, bd, rc, lb, fl, le, lo, tr, li) := by
  have L : ∀ d i n, i + d = 6 → d < n → wX_seedsInHouses_4 post fm fx fk bd rc lb fl le lo tr li n (nI (ka_xs c i)) (nI i) := by
    intro d
    induction d with
    | zero =>
      intro i n hi hn
      obtain ⟨n, rfl⟩ : ∃ m, n = m + 1 := ⟨n - 1, by omega⟩
      obtain rfl : i = 6 := by omega
      rw [wX_seedsInHouses_4]
      have e : ka_xs c 6 = ka_s0 c + ka_s1 c := by simp only [ka_xs, ka_s0, ka_s1]; omega
      rw [e]
      exact br_t (by decide) H
    | succ d ih =>
      intro i n hi hn
      obtain ⟨n, rfl⟩ : ∃ m, n = m + 1 := ⟨n - 1, by omega⟩
      rw [wX_seedsInHouses_4]
      refine br_f (nI_ge (b := 6) (by omega) (by omega)) ⟨vp_in_nI (by omega) (by omega), nm_r (e' := nI (ka_xs c (i + 1))) ?_ (nm_r (nI_1 i) (ih (i + 1) n (by omega) (by omega)))⟩
      rw [nI_clamp (by omega), ka_Ast hA (by omega), nI_add]
      rfl
  exact ⟨7, L 6 0 7 rfl (by omega)⟩
theorem xa_mo {post : Int32 → Prop} {c A B : Nat} (hc : ka_ok c) (hA : ka_A bd (ka_st c) A B) (H : post (nI (ka_cn c 6))) : wpX_moves post (nI (ka_pl c), fx, fk, bd, rc, lb, fl, le, lo, tr, li) := by
  have L : ∀ d i n, i + d = 6 → d < n → wX_moves_4 post (nI (ka_pl c)) fx fk bd rc lb fl le lo tr li n (nI (ka_cn c i)) (nI i) := by
    intro d
    induction d with
    | zero =>
      intro i n hi hn
      obtain ⟨n, rfl⟩ : ∃ m, n = m + 1 := ⟨n - 1, by omega⟩
      obtain rfl : i = 6 := by omega
      rw [wX_moves_4]
      exact br_t (by decide) H
    | succ d ih =>
      intro i n hi hn
      obtain ⟨n, rfl⟩ : ∃ m, n = m + 1 := ⟨n - 1, by omega⟩
      have I := ih (i + 1) n (by omega) (by omega)
      rw [wX_moves_4]
      refine br_f (nI_ge (b := 6) (by omega) (by omega)) (xa_im_board hc (by omega) hA (fun hm => br_f (by decide) (nm_r (nI_1 _) (nm_r (nI_1 i) ?_))) (fun hm => br_t rfl (nm_r (nI_1 i) ?_)))
      · simp only [ka_cn, hm, if_true] at I
        exact I
      · have e : ka_cn c (i + 1) = ka_cn c i := by simp only [ka_cn, hm]; rfl
        rw [e] at I
        exact I
  exact ⟨7, L 6 0 7 rfl (by omega)⟩
theorem xa_rm {post : SX → Prop} {m h : Nat} (hm : m < 19) (K : ∀ rc', (∀ j, j < 8 → rc' (m * 10 + j) = bd j) → rc' (m * 10 + 8) = fm → rc' (m * 10 + 9) = nI h → (∀ j, j < m * 10 → rc' j = rc j) → post (fm, nI (m + 1), nI (m + 1), bd, rc', lb, fl, le, lo, tr, li)) : wpX_recordMove post (fm, nI m, nI m, bd, rc, lb, fl, le, lo, tr, li) (nI h) := by
  have L : ∀ d i n rc', i + d = 8 → d < n → (∀ j, j < i → rc' (m * 10 + j) = bd j) → (∀ j, j < m * 10 → rc' j = rc j) → wX_recordMove_10 post (nI h) (nI (m * 10)) fm (nI m) (nI m) n (nI i) bd rc' lb fl le lo tr li := by
    intro d
    induction d with
    | zero =>
      intro i n rc' hi hn h1 h2
      obtain ⟨n, rfl⟩ : ∃ k, n = k + 1 := ⟨n - 1, by omega⟩
      obtain rfl : i = 8 := by omega
      rw [wX_recordMove_10]
      have e8 : nI (m * 10) + 8 = nI (m * 10 + 8) := nI_add _ 8
      have e9 : nI (m * 10) + 9 = nI (m * 10 + 9) := nI_add _ 9
      refine br_t (by decide) ⟨by rw [e8]; exact vp_in_nI (by omega) (by omega), nm_r (e' := upd rc' (m * 10 + 8) fm) (by rw [e8, nI_clamp (by omega)]) ⟨by rw [e9]; exact vp_in_nI (by omega) (by omega), nm_r (e' := upd (upd rc' (m * 10 + 8) fm) (m * 10 + 9) (nI h)) (by rw [e9, nI_clamp (by omega)]) (br_f (fun z => ?_) (br_f (nI_ge (b := 20) (by omega) (by omega)) (nm_r (nI_1 m) ?_)))⟩⟩
      · have := (nI_eq (a := m) (b := 19) (by omega) (by omega)).mp z
        omega
      · rw [nI_1]
        refine K _ (fun j hj => ?_) ?_ ?_ (fun j hj => ?_)
        · rw [pk_un (by omega), pk_un (by omega)]; exact h1 j hj
        · rw [pk_un (by omega), pk_us]
        · rw [pk_us]
        · rw [pk_un (by omega), pk_un (by omega)]; exact h2 j hj
    | succ d ih =>
      intro i n rc' hi hn h1 h2
      obtain ⟨n, rfl⟩ : ∃ k, n = k + 1 := ⟨n - 1, by omega⟩
      rw [wX_recordMove_10]
      have e1 : nI (m * 10) + nI i = nI (m * 10 + i) := nI_add _ _
      refine br_f (nI_ge (b := 8) (by omega) (by omega)) ⟨vp_in_nI (by omega) (by omega), by rw [e1]; exact vp_in_nI (by omega) (by omega), nm_r (e' := upd rc' (m * 10 + i) (bd i)) (by rw [e1, nI_clamp (by omega), nI_clamp (by omega)]) (nm_r (nI_1 i) (ih (i + 1) n _ (by omega) (by omega) (fun j hj => ?_) (fun j hj => ?_)))⟩
      · by_cases y : j = i
        · rw [y, pk_us]
        · rw [pk_un (by omega)]; exact h1 j (by omega)
      · rw [pk_un (by omega)]; exact h2 j hj
  refine nm_r (e' := nI (m * 10)) (pk_mul m 10) ⟨9, L 8 0 9 rc rfl (by omega) (fun j hj => absurd hj (by omega)) (fun j hj => rfl)⟩
theorem xa_un {post : Int32 → SX → Prop} {q : Nat} (hq : q < 19) (K : ∀ bd', (∀ j, j < 8 → bd' j = rc (q * 10 + j)) → post (rc (q * 10 + 9)) (rc (q * 10 + 8), nI q, nI q, bd', rc, lb, fl, le, lo, tr, li)) : wpX_undo post (fm, nI (q + 1), nI (q + 1), bd, rc, lb, fl, le, lo, tr, li) := by
  have L : ∀ d i n bd', i + d = 8 → d < n → (∀ j, j < i → bd' j = rc (q * 10 + j)) → wX_undo_53 post (nI (q * 10)) fm (nI q) (nI q) n (nI i) bd' rc lb fl le lo tr li := by
    intro d
    induction d with
    | zero =>
      intro i n bd' hi hn h1
      obtain ⟨n, rfl⟩ : ∃ k, n = k + 1 := ⟨n - 1, by omega⟩
      obtain rfl : i = 8 := by omega
      rw [wX_undo_53]
      have e8 : nI (q * 10) + 8 = nI (q * 10 + 8) := nI_add _ 8
      have e9 : nI (q * 10) + 9 = nI (q * 10 + 9) := nI_add _ 9
      refine br_t (by decide) ⟨by rw [e8]; exact vp_in_nI (by omega) (by omega), nm_r (e' := rc (q * 10 + 8)) (by rw [e8, nI_clamp (by omega)]) ⟨by rw [e9]; exact vp_in_nI (by omega) (by omega), ?_⟩⟩
      rw [e9, nI_clamp (by omega)]
      exact K bd' h1
    | succ d ih =>
      intro i n bd' hi hn h1
      obtain ⟨n, rfl⟩ : ∃ k, n = k + 1 := ⟨n - 1, by omega⟩
      rw [wX_undo_53]
      have e1 : nI (q * 10) + nI i = nI (q * 10 + i) := nI_add _ _
      refine br_f (nI_ge (b := 8) (by omega) (by omega)) ⟨by rw [e1]; exact vp_in_nI (by omega) (by omega), vp_in_nI (by omega) (by omega), nm_r (e' := upd bd' i (rc (q * 10 + i))) (by rw [e1, nI_clamp (by omega), nI_clamp (by omega)]) (nm_r (nI_1 i) (ih (i + 1) n _ (by omega) (by omega) (fun j hj => ?_)))⟩
      by_cases y : j = i
      · rw [y, pk_us]
      · rw [pk_un y]; exact h1 j (by omega)
  refine br_f (nI_ne0 (by omega) (by omega)) (nm_r (nI_pred q) (br_f (nI_ne0 (by omega) (by omega)) ?_))
  rw [nI_pred]
  exact nm_r (e' := nI (q * 10)) (pk_mul q 10) ⟨9, L 8 0 9 bd rfl (by omega) (fun j hj => absurd hj (by omega))⟩
end
section
variable {fb ff fs fk fn gf gs : Int32} {kn wy bo so ho rr : Nat → Int32}
theorem ya_mo {post : Int32 → Prop} {c : Nat} (hc : ka_ok c) (H : post (nI (ka_cn c 6))) : wpY_moves post (nI c, ff, fs, fk, fn, gf, gs, kn, wy, bo, so, ho, rr) := by
  have L : ∀ d i n, i + d = 6 → d < n → wY_moves_4 post (nI c) ff fs fk fn gf gs kn wy bo so ho rr n (nI (ka_cn c i)) (nI i) := by
    intro d
    induction d with
    | zero =>
      intro i n hi hn
      obtain ⟨n, rfl⟩ : ∃ m, n = m + 1 := ⟨n - 1, by omega⟩
      obtain rfl : i = 6 := by omega
      rw [wY_moves_4]
      exact br_t (by decide) H
    | succ d ih =>
      intro i n hi hn
      obtain ⟨n, rfl⟩ : ∃ m, n = m + 1 := ⟨n - 1, by omega⟩
      have I := ih (i + 1) n (by omega) (by omega)
      rw [wY_moves_4]
      refine br_f (nI_ge (b := 6) (by omega) (by omega)) (ya_im (ka_okl hc) (by omega) (fun hm => br_f (by decide) (nm_r (nI_1 _) (nm_r (nI_1 i) ?_))) (fun hm => br_t rfl (nm_r (nI_1 i) ?_)))
      · simp only [ka_cn, hm, if_true] at I
        exact I
      · have e : ka_cn c (i + 1) = ka_cn c i := by simp only [ka_cn, hm]; rfl
        rw [e] at I
        exact I
  exact ⟨7, L 6 0 7 rfl (by omega)⟩
theorem ya_in {post : SY → Prop} (K : post (nI 37449, 0, 0, 0, 0, 0, 0, (fun _ => 0), (fun _ => 0), (fun _ => 0), (fun _ => 0), (fun _ => 0), (fun _ => 0))) : wpY_init post := by
  have L : ∀ d i n, i + d = 6 → d < n → wY_init_56 post 0 0 0 0 0 0 (fun _ => 0) (fun _ => 0) (fun _ => 0) (fun _ => 0) (fun _ => 0) (fun _ => 0) n (nI i) (nI (ka_ac (fun _ => 1) i + 262144 * 0)) := by
    intro d
    induction d with
    | zero =>
      intro i n hi hn
      obtain ⟨n, rfl⟩ : ∃ m, n = m + 1 := ⟨n - 1, by omega⟩
      obtain rfl : i = 6 := by omega
      rw [wY_init_56, show ka_ac (fun _ => 1) 6 + 262144 * 0 = 37449 by decide +kernel]
      exact br_t (by decide) K
    | succ d ih =>
      intro i n hi hn
      obtain ⟨n, rfl⟩ : ∃ m, n = m + 1 := ⟨n - 1, by omega⟩
      rw [wY_init_56]
      have q : (1 : Int32) <<< ((3 * nI i) &&& 31) = nI (1 * 8 ^ i) := ka_shl (d := 1) (by omega) (by omega)
      refine br_f (nI_ge (b := 6) (by omega) (by omega)) (nm_r (e' := nI (ka_ac (fun _ => 1) (i + 1) + 262144 * 0)) ?_ (nm_r (nI_1 i) (ih (i + 1) n (by omega) (by omega))))
      rw [q, nx_or, ka_orn (ka_acb (fun _ _ => by omega) i (by omega)) (by omega) (by omega)]
      rfl
  exact ⟨7, L 6 0 7 rfl (by omega)⟩
end
def ka_H (k m : Nat) (rc bo so ho : Nat → Int32) : Prop := ∀ i, i < m → ∃ c A B h, ka_ok c ∧ h < 6 ∧ i + ka_ln c ≤ 11 ∧ A ≤ 30 + 2 * k ∧ 18 * B + 3 * ka_po c ≤ 11 * k + 615 ∧ ka_A (fun j => rc (i * 10 + j)) (ka_st c) A B ∧ rc (i * 10 + 8) = nI (ka_pl c) ∧ rc (i * 10 + 9) = nI h ∧ bo i = nI c ∧ so i = nI (1000 * A + B) ∧ ho i = nI h
def ka_R (k c A B m : Nat) (bd rc lb fl le kn bo so ho : Nat → Int32) : Prop := ka_ok c ∧ m + ka_ln c ≤ 11 ∧ A ≤ 30 + 2 * k ∧ 18 * B + 3 * ka_po c ≤ 11 * k + 615 ∧ ka_A bd (ka_st c) A B ∧ xa_L lb ∧ xa_Z false fl 924 ∧ xa_Z true le 924 ∧ ya_K kn ∧ ka_H k m rc bo so ho
theorem ka_Hup {k m : Nat} {rc bo so ho : Nat → Int32} (h : ka_H k m rc bo so ho) : ka_H (k + 3) m rc bo so ho := fun i hi => by
  obtain ⟨c, A, B, h, h1, h2, h3, h4, h5, h6⟩ := h i hi
  exact ⟨c, A, B, h, h1, h2, h3, by omega, by omega, h6⟩
theorem ka_Rup {k c A B m : Nat} {bd rc lb fl le kn bo so ho : Nat → Int32} (h : ka_R k c A B m bd rc lb fl le kn bo so ho) : ka_R (k + 3) c A B m bd rc lb fl le kn bo so ho := by
  obtain ⟨h1, h2, h3, h4, h5, h6, h7, h8, h9, h10⟩ := h
  exact ⟨h1, h2, by omega, by omega, h5, h6, h7, h8, h9, ka_Hup h10⟩
theorem ka_H0 {k : Nat} {rc bo so ho : Nat → Int32} : ka_H k 0 rc bo so ho := fun i hi => absurd hi (by omega)
