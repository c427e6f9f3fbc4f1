/-! ===== the component: the number of a layout, results, the best house ===== -/
def xa_L (lb : Nat → Int32) : Prop := ∀ i, i < 42 → lb i = nI (ka_LB i)
def xa_Z (l : Bool) (a : Nat → Int32) (d : Nat) : Prop := ∀ c, ka_ok c → ka_X c < d → a (2 * ka_X c + ka_pl c) = ka_I (ka_V l c)
theorem ka_x2 {c : Nat} (hc : ka_ok c) : nI (ka_X c) * 2 + nI (ka_pl c) = nI (2 * ka_X c + ka_pl c) ∧ vp_in (nI (2 * ka_X c + ka_pl c)) 1848 ∧ (nI (2 * ka_X c + ka_pl c)).toNatClampNeg = 2 * ka_X c + ka_pl c := by
  have a := (ka_X924 hc).1
  have b := ka_pl2 hc
  refine ⟨?_, vp_in_nI (by omega) (by omega), nI_clamp (by omega)⟩
  rw [show nI (ka_X c) * 2 = nI (ka_X c * 2) from pk_mul _ 2, nI_add]
  exact congrArg nI (by omega)
section
variable {fm fx fk : Int32} {bd rc lb fl le lo tr li : Nat → Int32}
theorem xa_ln_trial {post : Int32 → Prop} {c A B : Nat} (hc : ka_ok c) (hL : xa_L lb) (hA : ka_A tr (ka_st c) A B) (H : post (nI (ka_X c))) : wpX_layoutNumber__trial post (fm, fx, fk, bd, rc, lb, fl, le, lo, tr, li) := by
  have L : ∀ d i n, i + d = 6 → d < n → wX_layoutNumber__trial_7 post fm fx fk bd rc lb fl le lo tr li n (nI (ka_xn c i)) (nI (ka_xs c i)) (nI i) := by
    intro d
    induction d with
    | zero =>
      intro i n hi hn
      obtain ⟨n, rfl⟩ : ∃ m, n = m + 1 := ⟨n - 1, by omega⟩
      obtain rfl : i = 6 := by omega
      rw [wX_layoutNumber__trial_7]
      exact br_t (by decide) H
    | succ d ih =>
      intro i n hi hn
      obtain ⟨n, rfl⟩ : ∃ m, n = m + 1 := ⟨n - 1, by omega⟩
      rw [wX_layoutNumber__trial_7]
      have b := ka_xs6 hc (i := i) (by omega)
      have e : ka_xs c (i + 1) = ka_xs c i + ka_sd c i := rfl
      have w : vp_in (nI i) 8 := vp_in_nI (by omega) (by omega)
      have e7 : nI i * 7 + nI (ka_xs c (i + 1)) = nI (i * 7 + ka_xs c (i + 1)) := by rw [show nI i * 7 = nI (i * 7) from pk_mul i 7, nI_add]
      refine br_f (nI_ge (b := 6) (by omega) (by omega)) ⟨w, nm_r (e' := nI (ka_xs c (i + 1))) ?_ ⟨?_, nm_r (e' := nI (ka_xn c (i + 1))) ?_ (nm_r (nI_1 i) (ih (i + 1) n (by omega) (by omega)))⟩⟩
      · rw [nI_clamp (by omega), ka_Ast hA (by omega), nI_add]
        rfl
      · rw [e7]
        exact vp_in_nI (by omega) (by omega)
      · rw [e7, nI_clamp (by omega), hL _ (by omega), nI_add]
        rfl
  exact ⟨7, L 6 0 7 rfl (by omega)⟩
theorem xa_ln_board {post : Int32 → Prop} {c A B : Nat} (hc : ka_ok c) (hL : xa_L lb) (hA : ka_A bd (ka_st c) A B) (H : post (nI (ka_X c))) : wpX_layoutNumber__board post (fm, fx, fk, bd, rc, lb, fl, le, lo, tr, li) := by
  have L : ∀ d i n, i + d = 6 → d < n → wX_layoutNumber__board_7 post fm fx fk bd rc lb fl le lo tr li n (nI (ka_xn c i)) (nI (ka_xs c i)) (nI i) := by
    intro d
    induction d with
    | zero =>
      intro i n hi hn
      obtain ⟨n, rfl⟩ : ∃ m, n = m + 1 := ⟨n - 1, by omega⟩
      obtain rfl : i = 6 := by omega
      rw [wX_layoutNumber__board_7]
      exact br_t (by decide) H
    | succ d ih =>
      intro i n hi hn
      obtain ⟨n, rfl⟩ : ∃ m, n = m + 1 := ⟨n - 1, by omega⟩
      rw [wX_layoutNumber__board_7]
      have b := ka_xs6 hc (i := i) (by omega)
      have e : ka_xs c (i + 1) = ka_xs c i + ka_sd c i := rfl
      have w : vp_in (nI i) 8 := vp_in_nI (by omega) (by omega)
      have e7 : nI i * 7 + nI (ka_xs c (i + 1)) = nI (i * 7 + ka_xs c (i + 1)) := by rw [show nI i * 7 = nI (i * 7) from pk_mul i 7, nI_add]
      refine br_f (nI_ge (b := 6) (by omega) (by omega)) ⟨w, nm_r (e' := nI (ka_xs c (i + 1))) ?_ ⟨?_, nm_r (e' := nI (ka_xn c (i + 1))) ?_ (nm_r (nI_1 i) (ih (i + 1) n (by omega) (by omega)))⟩⟩
      · rw [nI_clamp (by omega), ka_Ast hA (by omega), nI_add]
        rfl
      · rw [e7]
        exact vp_in_nI (by omega) (by omega)
      · rw [e7, nI_clamp (by omega), hL _ (by omega), nI_add]
        rfl
  exact ⟨7, L 6 0 7 rfl (by omega)⟩
theorem xa_ln_line {post : Int32 → Prop} {c A B : Nat} (hc : ka_ok c) (hL : xa_L lb) (hA : ka_A li (ka_st c) A B) (H : post (nI (ka_X c))) : wpX_layoutNumber__line post (fm, fx, fk, bd, rc, lb, fl, le, lo, tr, li) := by
  have L : ∀ d i n, i + d = 6 → d < n → wX_layoutNumber__line_7 post fm fx fk bd rc lb fl le lo tr li n (nI (ka_xn c i)) (nI (ka_xs c i)) (nI i) := by
    intro d
    induction d with
    | zero =>
      intro i n hi hn
      obtain ⟨n, rfl⟩ : ∃ m, n = m + 1 := ⟨n - 1, by omega⟩
      obtain rfl : i = 6 := by omega
      rw [wX_layoutNumber__line_7]
      exact br_t (by decide) H
    | succ d ih =>
      intro i n hi hn
      obtain ⟨n, rfl⟩ : ∃ m, n = m + 1 := ⟨n - 1, by omega⟩
      rw [wX_layoutNumber__line_7]
      have b := ka_xs6 hc (i := i) (by omega)
      have e : ka_xs c (i + 1) = ka_xs c i + ka_sd c i := rfl
      have w : vp_in (nI i) 8 := vp_in_nI (by omega) (by omega)
      have e7 : nI i * 7 + nI (ka_xs c (i + 1)) = nI (i * 7 + ka_xs c (i + 1)) := by rw [show nI i * 7 = nI (i * 7) from pk_mul i 7, nI_add]
      refine br_f (nI_ge (b := 6) (by omega) (by omega)) ⟨w, nm_r (e' := nI (ka_xs c (i + 1))) ?_ ⟨?_, nm_r (e' := nI (ka_xn c (i + 1))) ?_ (nm_r (nI_1 i) (ih (i + 1) n (by omega) (by omega)))⟩⟩
      · rw [nI_clamp (by omega), ka_Ast hA (by omega), nI_add]
        rfl
      · rw [e7]
        exact vp_in_nI (by omega) (by omega)
      · rw [e7, nI_clamp (by omega), hL _ (by omega), nI_add]
        rfl
  exact ⟨7, L 6 0 7 rfl (by omega)⟩
theorem xa_ro_fairLeads_trial {post : Int32 → Prop} {c A B : Nat} (hc : ka_ok c) (hL : xa_L lb) (hA : ka_A tr (ka_st c) A B) (hV : fl (2 * ka_X c + ka_pl c) = ka_I (ka_V false c)) (H : post (ka_I ((A : Int) - (B : Int) + ka_V false c))) : wpX_resultOf__fairLeads_trial post (fm, fx, fk, bd, rc, lb, fl, le, lo, tr, li) (nI (ka_pl c)) := by
  unfold wpX_resultOf__fairLeads_trial
  dsimp only
  obtain ⟨x1, x2, x3⟩ := ka_x2 hc
  refine xa_ln_trial hc hL hA (nm_r x1 ⟨x2, ?_⟩)
  have e6 : tr 6 = nI A := (hA 6 (by omega)).trans (congrArg nI (Nat.zero_add A))
  have e7 : tr 7 = nI B := (hA 7 (by omega)).trans (congrArg nI (Nat.zero_add B))
  rw [x3, hV, e6, e7, ka_In, ka_In, ka_Is, ka_Ia]
  exact H
theorem xa_ro_leastLeads_trial {post : Int32 → Prop} {c A B : Nat} (hc : ka_ok c) (hL : xa_L lb) (hA : ka_A tr (ka_st c) A B) (hV : le (2 * ka_X c + ka_pl c) = ka_I (ka_V true c)) (H : post (ka_I ((A : Int) - (B : Int) + ka_V true c))) : wpX_resultOf__leastLeads_trial post (fm, fx, fk, bd, rc, lb, fl, le, lo, tr, li) (nI (ka_pl c)) := by
  unfold wpX_resultOf__leastLeads_trial
  dsimp only
  obtain ⟨x1, x2, x3⟩ := ka_x2 hc
  refine xa_ln_trial hc hL hA (nm_r x1 ⟨x2, ?_⟩)
  have e6 : tr 6 = nI A := (hA 6 (by omega)).trans (congrArg nI (Nat.zero_add A))
  have e7 : tr 7 = nI B := (hA 7 (by omega)).trans (congrArg nI (Nat.zero_add B))
  rw [x3, hV, e6, e7, ka_In, ka_In, ka_Is, ka_Ia]
  exact H
theorem xa_ro_fairLeads_board {post : Int32 → Prop} {c A B : Nat} (hc : ka_ok c) (hL : xa_L lb) (hA : ka_A bd (ka_st c) A B) (hV : fl (2 * ka_X c + ka_pl c) = ka_I (ka_V false c)) (H : post (ka_I ((A : Int) - (B : Int) + ka_V false c))) : wpX_resultOf__fairLeads_board post (fm, fx, fk, bd, rc, lb, fl, le, lo, tr, li) (nI (ka_pl c)) := by
  unfold wpX_resultOf__fairLeads_board
  dsimp only
  obtain ⟨x1, x2, x3⟩ := ka_x2 hc
  refine xa_ln_board hc hL hA (nm_r x1 ⟨x2, ?_⟩)
  have e6 : bd 6 = nI A := (hA 6 (by omega)).trans (congrArg nI (Nat.zero_add A))
  have e7 : bd 7 = nI B := (hA 7 (by omega)).trans (congrArg nI (Nat.zero_add B))
  rw [x3, hV, e6, e7, ka_In, ka_In, ka_Is, ka_Ia]
  exact H
theorem xa_ro_leastLeads_board {post : Int32 → Prop} {c A B : Nat} (hc : ka_ok c) (hL : xa_L lb) (hA : ka_A bd (ka_st c) A B) (hV : le (2 * ka_X c + ka_pl c) = ka_I (ka_V true c)) (H : post (ka_I ((A : Int) - (B : Int) + ka_V true c))) : wpX_resultOf__leastLeads_board post (fm, fx, fk, bd, rc, lb, fl, le, lo, tr, li) (nI (ka_pl c)) := by
  unfold wpX_resultOf__leastLeads_board
  dsimp only
  obtain ⟨x1, x2, x3⟩ := ka_x2 hc
  refine xa_ln_board hc hL hA (nm_r x1 ⟨x2, ?_⟩)
  have e6 : bd 6 = nI A := (hA 6 (by omega)).trans (congrArg nI (Nat.zero_add A))
  have e7 : bd 7 = nI B := (hA 7 (by omega)).trans (congrArg nI (Nat.zero_add B))
  rw [x3, hV, e6, e7, ka_In, ka_In, ka_Is, ka_Ia]
  exact H
theorem xa_ro_fairLeads_line {post : Int32 → Prop} {c A B : Nat} (hc : ka_ok c) (hL : xa_L lb) (hA : ka_A li (ka_st c) A B) (hV : fl (2 * ka_X c + ka_pl c) = ka_I (ka_V false c)) (H : post (ka_I ((A : Int) - (B : Int) + ka_V false c))) : wpX_resultOf__fairLeads_line post (fm, fx, fk, bd, rc, lb, fl, le, lo, tr, li) (nI (ka_pl c)) := by
  unfold wpX_resultOf__fairLeads_line
  dsimp only
  obtain ⟨x1, x2, x3⟩ := ka_x2 hc
  refine xa_ln_line hc hL hA (nm_r x1 ⟨x2, ?_⟩)
  have e6 : li 6 = nI A := (hA 6 (by omega)).trans (congrArg nI (Nat.zero_add A))
  have e7 : li 7 = nI B := (hA 7 (by omega)).trans (congrArg nI (Nat.zero_add B))
  rw [x3, hV, e6, e7, ka_In, ka_In, ka_Is, ka_Ia]
  exact H
theorem xa_ra_fairLeads_layout {post : Int32 → SX → Prop} {c h A B : Nat} (hc : ka_ok c) (hh : h < 6) (hm : ka_mv c h = true) (hL : xa_L lb) (hA : ka_A lo (ka_st c) A B) (hV : fl (2 * ka_X (ka_nx c h) + ka_pl (ka_nx c h)) = ka_I (ka_V false (ka_nx c h)))
    (K : ∀ tr', post (ka_I ((A : Int) - (B : Int) + ka_w (ka_V false) c h)) (fm, fx, fk, bd, rc, lb, fl, le, lo, tr', li)) : wpX_resultAfter__fairLeads_layout post (fm, fx, fk, bd, rc, lb, fl, le, lo, tr, li) (nI (ka_pl c)) (nI h) := by
  unfold wpX_resultAfter__fairLeads_layout
  dsimp only
  refine xa_cb_layout_trial (fun t ht => ?_)
  dsimp only
  refine xa_mm_trial hc hh hm (ka_Ae hA (fun _ _ => rfl) ht) (fun a ha => ?_)
  dsimp only
  refine xa_ro_fairLeads_trial (ka_okn hc hh hm) hL ha hV ?_
  have e : ((A + ka_fin c h 6 : Nat) : Int) - ((B + ka_fin c h 7 : Nat) : Int) + ka_V false (ka_nx c h) = (A : Int) - (B : Int) + ka_w (ka_V false) c h := by
    unfold ka_w
    omega
  rw [e]
  exact K a
theorem xa_ra_leastLeads_layout {post : Int32 → SX → Prop} {c h A B : Nat} (hc : ka_ok c) (hh : h < 6) (hm : ka_mv c h = true) (hL : xa_L lb) (hA : ka_A lo (ka_st c) A B) (hV : le (2 * ka_X (ka_nx c h) + ka_pl (ka_nx c h)) = ka_I (ka_V true (ka_nx c h)))
    (K : ∀ tr', post (ka_I ((A : Int) - (B : Int) + ka_w (ka_V true) c h)) (fm, fx, fk, bd, rc, lb, fl, le, lo, tr', li)) : wpX_resultAfter__leastLeads_layout post (fm, fx, fk, bd, rc, lb, fl, le, lo, tr, li) (nI (ka_pl c)) (nI h) := by
  unfold wpX_resultAfter__leastLeads_layout
  dsimp only
  refine xa_cb_layout_trial (fun t ht => ?_)
  dsimp only
  refine xa_mm_trial hc hh hm (ka_Ae hA (fun _ _ => rfl) ht) (fun a ha => ?_)
  dsimp only
  refine xa_ro_leastLeads_trial (ka_okn hc hh hm) hL ha hV ?_
  have e : ((A + ka_fin c h 6 : Nat) : Int) - ((B + ka_fin c h 7 : Nat) : Int) + ka_V true (ka_nx c h) = (A : Int) - (B : Int) + ka_w (ka_V true) c h := by
    unfold ka_w
    omega
  rw [e]
  exact K a
theorem xa_ra_fairLeads_board {post : Int32 → SX → Prop} {c h A B : Nat} (hc : ka_ok c) (hh : h < 6) (hm : ka_mv c h = true) (hL : xa_L lb) (hA : ka_A bd (ka_st c) A B) (hV : fl (2 * ka_X (ka_nx c h) + ka_pl (ka_nx c h)) = ka_I (ka_V false (ka_nx c h)))
    (K : ∀ tr', post (ka_I ((A : Int) - (B : Int) + ka_w (ka_V false) c h)) (fm, fx, fk, bd, rc, lb, fl, le, lo, tr', li)) : wpX_resultAfter__fairLeads_board post (fm, fx, fk, bd, rc, lb, fl, le, lo, tr, li) (nI (ka_pl c)) (nI h) := by
  unfold wpX_resultAfter__fairLeads_board
  dsimp only
  refine xa_cb_board_trial (fun t ht => ?_)
  dsimp only
  refine xa_mm_trial hc hh hm (ka_Ae hA (fun _ _ => rfl) ht) (fun a ha => ?_)
  dsimp only
  refine xa_ro_fairLeads_trial (ka_okn hc hh hm) hL ha hV ?_
  have e : ((A + ka_fin c h 6 : Nat) : Int) - ((B + ka_fin c h 7 : Nat) : Int) + ka_V false (ka_nx c h) = (A : Int) - (B : Int) + ka_w (ka_V false) c h := by
    unfold ka_w
    omega
  rw [e]
  exact K a
theorem xa_ra_fairLeads_line {post : Int32 → SX → Prop} {c h A B : Nat} (hc : ka_ok c) (hh : h < 6) (hm : ka_mv c h = true) (hL : xa_L lb) (hA : ka_A li (ka_st c) A B) (hV : fl (2 * ka_X (ka_nx c h) + ka_pl (ka_nx c h)) = ka_I (ka_V false (ka_nx c h)))
    (K : ∀ tr', post (ka_I ((A : Int) - (B : Int) + ka_w (ka_V false) c h)) (fm, fx, fk, bd, rc, lb, fl, le, lo, tr', li)) : wpX_resultAfter__fairLeads_line post (fm, fx, fk, bd, rc, lb, fl, le, lo, tr, li) (nI (ka_pl c)) (nI h) := by
  unfold wpX_resultAfter__fairLeads_line
  dsimp only
  refine xa_cb_line_trial (fun t ht => ?_)
  dsimp only
  refine xa_mm_trial hc hh hm (ka_Ae hA (fun _ _ => rfl) ht) (fun a ha => ?_)
  dsimp only
  refine xa_ro_fairLeads_trial (ka_okn hc hh hm) hL ha hV ?_
  have e : ((A + ka_fin c h 6 : Nat) : Int) - ((B + ka_fin c h 7 : Nat) : Int) + ka_V false (ka_nx c h) = (A : Int) - (B : Int) + ka_w (ka_V false) c h := by
    unfold ka_w
    omega
  rw [e]
  exact K a
theorem xa_bo_board {post : Int32 → SX → Prop} {c A B : Nat} (hc : ka_ok c) (hAB : A < 100000 ∧ B < 100000) (hL : xa_L lb) (hA : ka_A bd (ka_st c) A B) (hV : xa_Z false fl 924)
    (K : ∀ tr', post (if ka_b c < 6 then nI (ka_b c) else -4000) (fm, fx, fk, bd, rc, lb, fl, le, lo, tr', li)) : wpX_bestHouse__board post (fm, fx, fk, bd, rc, lb, fl, le, lo, tr, li) (nI (ka_pl c)) := by
  have L : ∀ d i n tr, i + d = 6 → d < n → ka_bh c d i = ka_b c → wX_bestHouse__board_14 post (nI (ka_pl c)) (ka_I ((A : Int) - (B : Int) + ka_V false c)) n (nI i) fm fx fk bd rc lb fl le lo tr li := by
    intro d
    induction d with
    | zero =>
      intro i n tr hi hn hq
      obtain ⟨n, rfl⟩ : ∃ m, n = m + 1 := ⟨n - 1, by omega⟩
      obtain rfl : i = 6 := by omega
      rw [wX_bestHouse__board_14]
      have K' := K tr
      have q : ka_b c = 6 := hq.symm
      rw [q, if_neg (by omega)] at K'
      exact br_t (by decide) K'
    | succ d ih =>
      intro i n tr hi hn hq
      obtain ⟨n, rfl⟩ : ∃ m, n = m + 1 := ⟨n - 1, by omega⟩
      have h6 : i < 6 := by omega
      simp only [ka_bh] at hq
      rw [wX_bestHouse__board_14]
      refine br_f (nI_ge (b := 6) h6 (by omega)) (xa_im_board hc h6 hA (fun hm => br_f (by decide) (xa_ra_fairLeads_board hc h6 hm hL hA (hV _ (ka_okn hc h6 hm) (ka_X924 (ka_okn hc h6 hm)).1) (fun tr' => ?_))) (fun hm => br_t rfl (nm_r (nI_1 i) (ih (i + 1) n _ (by omega) (by omega) ?_))))
      · have a := ka_Vb false hc
        have b := ka_wb false hc h6 hm
        refine ek_if (ka_Iq (by omega) (by omega) (by omega) (by omega)) (fun z => ?_) (fun z => nm_r (nI_1 i) (ih (i + 1) n _ (by omega) (by omega) ?_))
        · rw [if_pos ⟨hm, by omega⟩] at hq
          have K' := K tr'
          rw [← hq, if_pos h6] at K'
          exact K'
        · rw [if_neg (fun y => z (by omega))] at hq
          exact hq
      · rw [if_neg (fun y => by rw [hm] at y; cases y.1)] at hq
        exact hq
  unfold wpX_bestHouse__board
  dsimp only
  exact xa_ro_fairLeads_board hc hL hA (hV c hc (ka_X924 hc).1) ⟨7, L 6 0 7 _ rfl (by omega) rfl⟩
theorem xa_bo_line {post : Int32 → SX → Prop} {c A B : Nat} (hc : ka_ok c) (hAB : A < 100000 ∧ B < 100000) (hL : xa_L lb) (hA : ka_A li (ka_st c) A B) (hV : xa_Z false fl 924)
    (K : ∀ tr', post (if ka_b c < 6 then nI (ka_b c) else -4000) (fm, fx, fk, bd, rc, lb, fl, le, lo, tr', li)) : wpX_bestHouse__line post (fm, fx, fk, bd, rc, lb, fl, le, lo, tr, li) (nI (ka_pl c)) := by
  have L : ∀ d i n tr, i + d = 6 → d < n → ka_bh c d i = ka_b c → wX_bestHouse__line_14 post (nI (ka_pl c)) (ka_I ((A : Int) - (B : Int) + ka_V false c)) n (nI i) fm fx fk bd rc lb fl le lo tr li := by
    intro d
    induction d with
    | zero =>
      intro i n tr hi hn hq
      obtain ⟨n, rfl⟩ : ∃ m, n = m + 1 := ⟨n - 1, by omega⟩
      obtain rfl : i = 6 := by omega
      rw [wX_bestHouse__line_14]
      have K' := K tr
      have q : ka_b c = 6 := hq.symm
      rw [q, if_neg (by omega)] at K'
      exact br_t (by decide) K'
    | succ d ih =>
      intro i n tr hi hn hq
      obtain ⟨n, rfl⟩ : ∃ m, n = m + 1 := ⟨n - 1, by omega⟩
      have h6 : i < 6 := by omega
      simp only [ka_bh] at hq
      rw [wX_bestHouse__line_14]
      refine br_f (nI_ge (b := 6) h6 (by omega)) (xa_im_line hc h6 hA (fun hm => br_f (by decide) (xa_ra_fairLeads_line hc h6 hm hL hA (hV _ (ka_okn hc h6 hm) (ka_X924 (ka_okn hc h6 hm)).1) (fun tr' => ?_))) (fun hm => br_t rfl (nm_r (nI_1 i) (ih (i + 1) n _ (by omega) (by omega) ?_))))
      · have a := ka_Vb false hc
        have b := ka_wb false hc h6 hm
        refine ek_if (ka_Iq (by omega) (by omega) (by omega) (by omega)) (fun z => ?_) (fun z => nm_r (nI_1 i) (ih (i + 1) n _ (by omega) (by omega) ?_))
        · rw [if_pos ⟨hm, by omega⟩] at hq
          have K' := K tr'
          rw [← hq, if_pos h6] at K'
          exact K'
        · rw [if_neg (fun y => z (by omega))] at hq
          exact hq
      · rw [if_neg (fun y => by rw [hm] at y; cases y.1)] at hq
        exact hq
  unfold wpX_bestHouse__line
  dsimp only
  exact xa_ro_fairLeads_line hc hL hA (hV c hc (ka_X924 hc).1) ⟨7, L 6 0 7 _ rfl (by omega) rfl⟩
theorem xa_le18 {post : Int32 → SX → Prop} (hL : xa_L lb) (hV : xa_Z false fl 924) : ∀ m n c i A B tr li, m < n → ka_ok c → ka_ln c < m → i + m ≤ 900 → A + B + 12 * m < 100000 → ka_A li (ka_st c) A B →
    (∀ tr li, post (nI (i + ka_le m c)) (fm, fx, fk, bd, rc, lb, fl, le, lo, tr, li)) → wX_length_18 post n (nI (ka_pl c)) (nI i) fm fx fk bd rc lb fl le lo tr li := by
  intro m
  induction m with
  | zero => intro n c i A B tr li hn hc hl; omega
  | succ m ih =>
    intro n c i A B tr li hn hc hl hi hAB hA K
    obtain ⟨n, rfl⟩ : ∃ m, n = m + 1 := ⟨n - 1, by omega⟩
    rw [wX_length_18]
    refine br_f (nI_ge (b := 924) (by omega) (by omega)) (xa_bo_line hc (by omega) hL hA hV (fun tr' => ?_))
    dsimp only
    cases o : ka_over c with
    | true =>
      have K' := K tr' li
      have e : ka_le (m + 1) c = 0 := by simp only [ka_le, o, if_true]
      rw [e] at K'
      rw [if_neg (by rw [ka_bO o]; omega)]
      exact br_t rfl K'
    | false =>
      obtain ⟨b6, bm⟩ := ka_bN hc o
      have st := ka_step hc b6 bm
      have wb := ka_wb false hc b6 bm
      have e : ka_le (m + 1) c = ka_le m (ka_nx c (ka_b c)) + 1 := by
        simp only [ka_le, o]
        rfl
      rw [if_pos b6]
      refine br_f (fun z => ?_) (xa_mm_line hc b6 bm hA (fun a ha => nm_r (nI_1 i) (ih n _ (i + 1) _ _ _ _ (by omega) (ka_okn hc b6 bm) (by omega) (by omega) (by omega) ha (fun tr li => ?_))))
      · have : (nI (ka_b c)).toInt = (-4000 : Int32).toInt := by rw [z]
        rw [nI_toInt (by omega), show (-4000 : Int32).toInt = -4000 by decide] at this
        omega
      · have K' := K tr li
        rw [e] at K'
        rw [show i + 1 + ka_le m (ka_nx c (ka_b c)) = i + (ka_le m (ka_nx c (ka_b c)) + 1) by omega]
        exact K'
end
