/-! ===== the component: its constructor ===== -/
def xa_C (m : Nat) (lb : Nat → Int32) : Prop := (∀ j, j < m → lb j = nI (ka_LB j)) ∧ ∀ j, m ≤ j → lb j = 0
theorem ka_lfb (n : Nat) : ∀ k, ka_lf n k ≤ n
  | 0 => Nat.le_refl _
  | k + 1 => by
    have := ka_lfb n k
    simp only [ka_lf]
    omega
theorem ka_pmm {n : Nat} (hn : n < 924) {j : Nat} (hj : j < 5) : ka_pm n j ≤ ka_pm n (j + 1) := by
  obtain ⟨a, b, c, d, e, -⟩ := ka_lyq hn
  rcases (by omega : j = 0 ∨ j = 1 ∨ j = 2 ∨ j = 3 ∨ j = 4) with rfl | rfl | rfl | rfl | rfl
  · exact a
  · exact b
  · exact c
  · exact d
  · exact e
def xa_Y (n i : Nat) (a : Nat → Int32) : Prop := (∀ j, i < j → j < 6 → a j = nI (ka_pm n j - ka_pm n (j - 1))) ∧ (i < 6 → a i = nI (ka_pm n i)) ∧ a 6 = 0 ∧ a 7 = 0
theorem xa_YA {n p : Nat} {a : Nat → Int32} (hn : n < 924) (hp : p < 2) (h : xa_Y n 0 a) : ka_A a (ka_st (ka_ly n + 262144 * p)) 0 0 := by
  obtain ⟨d0, d1, d2, d3, d4, d5, -⟩ := ka_lyd hn hp
  obtain ⟨h1, h2, h6, h7⟩ := h
  intro j hj
  rcases (by omega : j = 0 ∨ j = 1 ∨ j = 2 ∨ j = 3 ∨ j = 4 ∨ j = 5 ∨ j = 6 ∨ j = 7) with rfl | rfl | rfl | rfl | rfl | rfl | rfl | rfl
  · rw [h2 (by omega)]; exact congrArg nI d0.symm
  · rw [h1 1 (by omega) (by omega)]; exact congrArg nI d1.symm
  · rw [h1 2 (by omega) (by omega)]; exact congrArg nI d2.symm
  · rw [h1 3 (by omega) (by omega)]; exact congrArg nI d3.symm
  · rw [h1 4 (by omega) (by omega)]; exact congrArg nI d4.symm
  · rw [h1 5 (by omega) (by omega)]; exact congrArg nI d5.symm
  · exact h6
  · exact h7
def xa_Zp (l : Bool) (a : Nat → Int32) (n p : Nat) : Prop := ∀ c, ka_ok c → (ka_X c < n ∨ (ka_X c = n ∧ ka_pl c < p)) → a (2 * ka_X c + ka_pl c) = ka_I (ka_V l c)
theorem xa_Zu {l : Bool} {a : Nat → Int32} {n p : Nat} (hn : n < 924) (hp : p < 2) (h : xa_Zp l a n p) : xa_Zp l (upd a (2 * n + p) (ka_I (ka_V l (ka_ly n + 262144 * p)))) n (p + 1) := by
  intro c hc hq
  have p2 := ka_pl2 hc
  by_cases e : ka_X c = n ∧ ka_pl c = p
  · obtain ⟨rfl, rfl⟩ := e
    rw [pk_us, ka_lyX hc]
  · rw [pk_un (by omega)]
    exact h c hc (by omega)
section
variable {fm fx fk : Int32} {bd rc fl le lo tr li : Nat → Int32}
theorem xa_40 {post : SX → Prop} {J2 J10 : _} {h s : Nat} {z0 : Int32} {lb : Nat → Int32} (hh : h < 6) (hs : s < 6) (hC : xa_C (h * 7 + (s + 1)) lb) (hz : z0 = nI (if h = 0 then 1 else ka_LB (h * 7 + (s + 1) - 7)))
    (K : ∀ lb', xa_C (h * 7 + (s + 1) + 1) lb' → J10 (nI (s + 1 + 1)) bd rc lb' fl le lo tr li) : wX_countLayouts_40 post J2 J10 (nI h) (nI (s + 1)) (nI (h * 7 + (s + 1))) z0 fm fx fk bd rc lb fl le lo tr li := by
  have e1 : nI (h * 7 + (s + 1)) - 1 = nI (h * 7 + s) := nI_pred (h * 7 + s)
  refine ⟨by rw [e1]; exact vp_in_nI (by omega) (by omega), vp_in_nI (by omega) (by omega), nm_r (e' := upd lb (h * 7 + (s + 1)) (nI (ka_LB (h * 7 + (s + 1))))) ?_ (nm_r (nI_1 _) (K _ ⟨fun j hj => ?_, fun j hj => ?_⟩))⟩
  · rw [e1, nI_clamp (by omega), nI_clamp (by omega), hC.1 (h * 7 + s) (by omega), hz, nI_add, ← ka_LBs h hh s hs]
  · by_cases y : j = h * 7 + (s + 1)
    · rw [y, pk_us]
    · rw [pk_un y]; exact hC.1 j (by omega)
  · rw [pk_un (by omega)]; exact hC.2 j (by omega)
theorem xa_cl10 {post : SX → Prop} {J2 : _} {h : Nat} (hh : h < 6) (K : ∀ lb', xa_C (h * 7 + 7) lb' → J2 (nI (h + 1)) bd rc lb' fl le lo tr li) : ∀ d s n lb, s + d = 6 → d < n → xa_C (h * 7 + (s + 1)) lb → wX_countLayouts_10 post J2 (nI h) fm fx fk n (nI (s + 1)) bd rc lb fl le lo tr li := by
  intro d
  induction d with
  | zero =>
    intro s n lb hi hn hC
    obtain ⟨n, rfl⟩ : ∃ m, n = m + 1 := ⟨n - 1, by omega⟩
    obtain rfl : s = 6 := by omega
    rw [wX_countLayouts_10]
    exact br_t (by decide) (nm_r (nI_1 h) (K lb hC))
  | succ d ih =>
    intro s n lb hi hn hC
    obtain ⟨n, rfl⟩ : ∃ m, n = m + 1 := ⟨n - 1, by omega⟩
    rw [wX_countLayouts_10]
    have e7 : nI h * 7 + nI (s + 1) = nI (h * 7 + (s + 1)) := by rw [show nI h * 7 = nI (h * 7) from pk_mul h 7, nI_add]
    have S := fun z0 hz => xa_40 (post := post) (J2 := J2) (J10 := wX_countLayouts_10 post J2 (nI h) fm fx fk n) (z0 := z0) (fm := fm) (fx := fx) (fk := fk) (bd := bd) (rc := rc) (fl := fl) (le := le) (lo := lo) (tr := tr) (li := li) hh (by omega) hC hz (fun lb' h' => ih (s + 1) n lb' (by omega) (by omega) h')
    refine br_f (nI_ge (b := 7) (by omega) (by omega)) (nm_r e7 (pk_eq h 0 (fun e => ?_) (fun e => ?_)))
    · exact S 1 (by rw [if_pos e]; rfl)
    · have e8 : nI (h * 7 + (s + 1)) - 7 = nI (h * 7 + (s + 1) - 7) := pk_sub (b := 7) (by omega)
      refine ⟨by rw [e8]; exact vp_in_nI (by omega) (by omega), S _ ?_⟩
      rw [e8, nI_clamp (by omega), hC.1 _ (by omega), if_neg e]
theorem xa_cl {post : SX → Prop} {lb : Nat → Int32} (hC : xa_C 0 lb) (K : ∀ lb', xa_L lb' → post (fm, fx, fk, bd, rc, lb', fl, le, lo, tr, li)) : wpX_countLayouts post (fm, fx, fk, bd, rc, lb, fl, le, lo, tr, li) := by
  have L : ∀ d h n lb, h + d = 6 → d < n → xa_C (h * 7) lb → wX_countLayouts_2 post fm fx fk n (nI h) bd rc lb fl le lo tr li := by
    intro d
    induction d with
    | zero =>
      intro h n lb hi hn hC
      obtain ⟨n, rfl⟩ : ∃ m, n = m + 1 := ⟨n - 1, by omega⟩
      obtain rfl : h = 6 := by omega
      rw [wX_countLayouts_2]
      exact br_t (by decide) (K lb hC.1)
    | succ d ih =>
      intro h n lb hi hn hC
      obtain ⟨n, rfl⟩ : ∃ m, n = m + 1 := ⟨n - 1, by omega⟩
      rw [wX_countLayouts_2]
      refine br_f (nI_ge (b := 6) (by omega) (by omega)) ⟨7, xa_cl10 (by omega) (fun lb' h' => ih (h + 1) n lb' (by omega) (by omega) (by rw [show (h + 1) * 7 = h * 7 + 7 by omega]; exact h')) 6 0 7 lb rfl (by omega) ⟨fun j hj => ?_, fun j hj => hC.2 j (by omega)⟩⟩
      by_cases y : j = h * 7
      · rw [y, hC.2 _ (Nat.le_refl _), ka_LB0 h (by omega)]; rfl
      · exact hC.1 j (by omega)
  exact ⟨7, L 6 0 7 lb rfl (by omega) hC⟩
end
section
variable {fm fx fk : Int32} {bd rc lb fl le tr li : Nat → Int32}
theorem xa_sl14 {post : SX → Prop} {J : _} {n i : Nat} {lo : Nat → Int32} (hL : xa_L lb) (hn : n < 924) (hi : i < 6) (hY : xa_Y n (i + 1) lo) (K : ∀ lo', xa_Y n i lo' → J (nI (ka_lf n (6 - i))) (nI i + (-1)) bd rc lb fl le lo' tr li) :
    ∀ d s m, s + d = 6 → d < m → wX_setLayout_14 post J (nI (ka_lf n (5 - i))) (nI i) fm fx fk bd rc lb fl le lo tr li m (nI (ka_tp i (ka_lf n (5 - i)) s)) (nI (s + 1)) := by
  have lb1 := ka_lfb n (5 - i)
  intro d
  induction d with
  | zero =>
    intro s m hs hm
    obtain ⟨m, rfl⟩ : ∃ k, m = k + 1 := ⟨m - 1, by omega⟩
    obtain rfl : s = 6 := by omega
    rw [wX_setLayout_14]
    have ep : ka_tp i (ka_lf n (5 - i)) 6 = ka_pm n i := rfl
    have t6 := ka_tpb i (ka_lf n (5 - i)) 6
    have tl := ka_tpl (left := ka_lf n (5 - i)) hi 6
    rw [ep] at t6 tl ⊢
    have e7 : nI i * 7 + nI (ka_pm n i) = nI (i * 7 + ka_pm n i) := by rw [show nI i * 7 = nI (i * 7) from pk_mul i 7, nI_add]
    have w : vp_in (nI i) 8 := vp_in_nI (by omega) (by omega)
    refine br_t (by decide) ⟨by rw [e7]; exact vp_in_nI (by omega) (by omega), nm_r (e' := nI (ka_lf n (6 - i))) ?_ ⟨w, nm_r (e' := upd lo i (nI (ka_pm n i))) (by rw [nI_clamp (by omega)]) ?_⟩⟩
    · rw [e7, nI_clamp (by omega), hL _ (by omega), pk_sub tl, show 6 - i = (5 - i) + 1 by omega]
      simp only [ka_lf]
      rw [show 5 - (5 - i) = i by omega]
      rfl
    · have e1 : nI i + 1 = nI (i + 1) := nI_1 i
      refine pk_le 6 (i + 1) (fun h6 => nm_e (K _ ⟨fun j h1 h2 => by omega, fun _ => pk_us, ?_, ?_⟩)) (fun h6 => ?_) (hy := e1)
      · rw [pk_un (by omega)]; exact hY.2.2.1
      · rw [pk_un (by omega)]; exact hY.2.2.2
      · have w1 : vp_in (nI i + 1) 8 := by rw [e1]; exact vp_in_nI (by omega) (by omega)
        have c1 : (nI i + 1).toNatClampNeg = i + 1 := by rw [e1]; exact nI_clamp (by omega)
        refine ⟨w1, w1, nm_r (e' := upd (upd lo i (nI (ka_pm n i))) (i + 1) (nI (ka_pm n (i + 1) - ka_pm n i))) ?_ (nm_e (K _ ⟨fun j h1 h2 => ?_, fun _ => ?_, ?_, ?_⟩))⟩
        · rw [c1, pk_un (by omega), hY.2.1 (by omega), pk_sub (ka_pmm hn (by omega))]
        · by_cases y : j = i + 1
          · rw [y, pk_us]; rfl
          · rw [pk_un y, pk_un (by omega)]; exact hY.1 j (by omega) h2
        · rw [pk_un (by omega), pk_us]
        · rw [pk_un (by omega), pk_un (by omega)]; exact hY.2.2.1
        · rw [pk_un (by omega), pk_un (by omega)]; exact hY.2.2.2
  | succ d ih =>
    intro s m hs hm
    obtain ⟨m, rfl⟩ : ∃ k, m = k + 1 := ⟨m - 1, by omega⟩
    rw [wX_setLayout_14]
    have e7 : nI i * 7 + nI (s + 1) = nI (i * 7 + (s + 1)) := by rw [show nI i * 7 = nI (i * 7) from pk_mul i 7, nI_add]
    have lt := ka_LBb i hi (s + 1) (by omega)
    have I := ih (s + 1) m (by omega) (by omega)
    simp only [ka_tp] at I
    refine br_f (nI_ge (b := 7) (by omega) (by omega)) ⟨by rw [e7]; exact vp_in_nI (by omega) (by omega), pk_lt (ka_lf n (5 - i)) (ka_LB (i * 7 + (s + 1))) (fun y => nm_r (nI_1 _) ?_) (fun y => nm_r (nI_1 _) ?_) (hy := by rw [e7, nI_clamp (by omega), hL _ (by omega)])⟩
    · rw [if_neg (by omega)] at I
      exact I
    · rw [if_pos (by omega)] at I
      exact I
theorem xa_sy {post : SX → Prop} {n : Nat} {lo : Nat → Int32} (hL : xa_L lb) (hn : n < 924) (h6 : lo 6 = 0) (h7 : lo 7 = 0) (K : ∀ lo', xa_Y n 0 lo' → post (fm, fx, fk, bd, rc, lb, fl, le, lo', tr, li)) : wpX_setLayout post (fm, fx, fk, bd, rc, lb, fl, le, lo, tr, li) (nI n) := by
  have L : ∀ i m lo, i ≤ 6 → i < m → xa_Y n i lo → wX_setLayout_4 post fm fx fk m (nI (ka_lf n (6 - i))) (nI i + (-1)) bd rc lb fl le lo tr li := by
    intro i
    induction i with
    | zero =>
      intro m lo hi hm hY
      obtain ⟨m, rfl⟩ : ∃ k, m = k + 1 := ⟨m - 1, by omega⟩
      rw [wX_setLayout_4]
      exact br_t (by decide) (K lo hY)
    | succ i ih =>
      intro m lo hi hm hY
      obtain ⟨m, rfl⟩ : ∃ k, m = k + 1 := ⟨m - 1, by omega⟩
      rw [wX_setLayout_4, pk_m1, show 6 - (i + 1) = 5 - i by omega]
      exact br_f (nI_pos (by omega)) ⟨7, xa_sl14 hL hn (by omega) hY (fun lo' h' => ih m lo' (by omega) (by omega) h') 6 0 7 rfl (by omega)⟩
  exact ⟨7, L 6 7 lo (by omega) (by omega) ⟨fun j h1 h2 => by omega, fun h => by omega, h6, h7⟩⟩
end
section
variable {fm fx fk : Int32} {bd rc lb fl le lo li : Nat → Int32}
theorem xa_lf_fairLeads {post : Int32 → SX → Prop} {c : Nat} {tr : Nat → Int32} (hc : ka_ok c) (hL : xa_L lb) (hA : ka_A lo (ka_st c) 0 0) (hV : ∀ d, ka_ok d → ka_X d < ka_X c → fl (2 * ka_X d + ka_pl d) = ka_I (ka_V false d)) (K : ∀ tr', post (ka_I (ka_V false c)) (fm, fx, fk, bd, rc, lb, fl, le, lo, tr', li)) :
    wpX_leadFor__fairLeads post (fm, fx, fk, bd, rc, lb, fl, le, lo, tr, li) (nI (ka_pl c)) (nI (ka_fq false c)) := by
  have p2 := ka_pl2 hc
  have q2 : ka_fq false c < 2 := by
    unfold ka_fq
    split <;> omega
  have L : ka_over c = false → ∀ d i n tr, i + d = 6 → d < n → wX_leadFor__fairLeads_60 post (nI (ka_pl c)) (nI (ka_fq false c)) n (ka_I (ka_fo (ka_fq false c) (ka_w (ka_V false) c) (ka_mv c) i)) (nI i) fm fx fk bd rc lb fl le lo tr li := by
    intro ov d
    induction d with
    | zero =>
      intro i n tr hi hn
      obtain ⟨n, rfl⟩ : ∃ m, n = m + 1 := ⟨n - 1, by omega⟩
      obtain rfl : i = 6 := by omega
      rw [wX_leadFor__fairLeads_60]
      have K' := K tr
      rw [ka_Ve false hc, ov, if_neg (by decide)] at K'
      exact br_t (by decide) K'
    | succ d ih =>
      intro i n tr hi hn
      obtain ⟨n, rfl⟩ : ∃ m, n = m + 1 := ⟨n - 1, by omega⟩
      have h6 : i < 6 := by omega
      have I := fun tr => ih (i + 1) n tr (by omega) (by omega)
      rw [wX_leadFor__fairLeads_60]
      refine br_f (nI_ge (b := 6) h6 (by omega)) (xa_im_layout hc h6 hA (fun hm => br_f (by decide) (xa_ra_fairLeads_layout hc h6 hm hL hA (hV _ (ka_okn hc h6 hm) (ka_step hc h6 hm).2.2.1) (fun tr' => ?_))) (fun hm => br_t rfl (nm_r (nI_1 i) ?_)))
      · have wb := ka_wb false hc h6 hm
        have b1 := ka_fo_b (q := ka_fq false c) (w := ka_w (ka_V false) c) (m := ka_mv c) i (fun j hj hj' => by have := ka_wb false hc (by omega) hj'; omega)
        have I' := I tr'
        rw [ka_fo_t hm] at I'
        rw [show (((0 : Nat) : Int) - ((0 : Nat) : Int) + ka_w (ka_V false) c i) = ka_w (ka_V false) c i by omega]
        refine pk_eq (ka_fq false c) 0 (fun e => ek_if (ka_Ie (by omega) (by omega) (by omega) (by omega)) (fun z => nm_r (nI_1 i) ?_) (fun z => nm_r (nI_1 i) ?_)) (fun e => ek_if (ka_Ie (by omega) (by omega) (by omega) (by omega)) (fun z => nm_r (nI_1 i) ?_) (fun z => nm_r (nI_1 i) ?_))
        · rw [if_pos e, if_neg (by omega)] at I'
          exact I'
        · rw [if_pos e, if_pos (by omega)] at I'
          exact I'
        · rw [if_neg e, if_neg (by omega)] at I'
          exact I'
        · rw [if_neg e, if_pos (by omega)] at I'
          exact I'
      · have I' := I tr
        rw [ka_fo_f hm] at I'
        exact I'
  unfold wpX_leadFor__fairLeads
  dsimp only
  refine xa_io_layout hA (fun j hj => ka_stb hc hj) (fun o => br_f (by decide) (xa_cb_layout_trial (fun t ht => xa_bh_trial (ka_Ae hA (fun _ _ => rfl) ht) (fun a ha => ?_)))) (fun o => br_t rfl ?_)
  · have K' := K a
    rw [ka_Ve false hc, if_pos (ka_sto.mp o)] at K'
    have e6 : a 6 = nI (ka_s0 c) := by
      rw [ha 6 (by omega), ka_bm6 _ (by omega)]
      exact congrArg nI (by show 0 + ka_s0 c + 0 = ka_s0 c; omega)
    have e7 : a 7 = nI (ka_s1 c) := by
      rw [ha 7 (by omega), ka_bm6 _ (by omega)]
      exact congrArg nI (by show 0 + ka_s1 c + 0 = ka_s1 c; omega)
    dsimp only
    rw [e6, e7, ka_In, ka_In, ka_Is]
    exact K'
  · have ov : ka_over c = false := by
      cases q : ka_over c with
      | false => rfl
      | true => exact absurd (ka_sto.mpr q) o
    have L' := L ov 6 0 7 tr rfl (by omega)
    have e0 : ka_fo (ka_fq false c) (ka_w (ka_V false) c) (ka_mv c) 0 = if ka_fq false c = 0 then -100 else 100 := rfl
    rw [e0] at L'
    refine pk_eq (ka_fq false c) 0 (fun e => ⟨7, ?_⟩) (fun e => ⟨7, ?_⟩)
    · rw [if_pos e] at L'
      exact L'
    · rw [if_neg e] at L'
      exact L'
theorem xa_lf_leastLeads {post : Int32 → SX → Prop} {c : Nat} {tr : Nat → Int32} (hc : ka_ok c) (hL : xa_L lb) (hA : ka_A lo (ka_st c) 0 0) (hV : ∀ d, ka_ok d → ka_X d < ka_X c → le (2 * ka_X d + ka_pl d) = ka_I (ka_V true d)) (K : ∀ tr', post (ka_I (ka_V true c)) (fm, fx, fk, bd, rc, lb, fl, le, lo, tr', li)) :
    wpX_leadFor__leastLeads post (fm, fx, fk, bd, rc, lb, fl, le, lo, tr, li) (nI (ka_pl c)) (nI (ka_fq true c)) := by
  have p2 := ka_pl2 hc
  have q2 : ka_fq true c < 2 := by
    unfold ka_fq
    split <;> omega
  have L : ka_over c = false → ∀ d i n tr, i + d = 6 → d < n → wX_leadFor__leastLeads_60 post (nI (ka_pl c)) (nI (ka_fq true c)) n (ka_I (ka_fo (ka_fq true c) (ka_w (ka_V true) c) (ka_mv c) i)) (nI i) fm fx fk bd rc lb fl le lo tr li := by
    intro ov d
    induction d with
    | zero =>
      intro i n tr hi hn
      obtain ⟨n, rfl⟩ : ∃ m, n = m + 1 := ⟨n - 1, by omega⟩
      obtain rfl : i = 6 := by omega
      rw [wX_leadFor__leastLeads_60]
      have K' := K tr
      rw [ka_Ve true hc, ov, if_neg (by decide)] at K'
      exact br_t (by decide) K'
    | succ d ih =>
      intro i n tr hi hn
      obtain ⟨n, rfl⟩ : ∃ m, n = m + 1 := ⟨n - 1, by omega⟩
      have h6 : i < 6 := by omega
      have I := fun tr => ih (i + 1) n tr (by omega) (by omega)
      rw [wX_leadFor__leastLeads_60]
      refine br_f (nI_ge (b := 6) h6 (by omega)) (xa_im_layout hc h6 hA (fun hm => br_f (by decide) (xa_ra_leastLeads_layout hc h6 hm hL hA (hV _ (ka_okn hc h6 hm) (ka_step hc h6 hm).2.2.1) (fun tr' => ?_))) (fun hm => br_t rfl (nm_r (nI_1 i) ?_)))
      · have wb := ka_wb true hc h6 hm
        have b1 := ka_fo_b (q := ka_fq true c) (w := ka_w (ka_V true) c) (m := ka_mv c) i (fun j hj hj' => by have := ka_wb true hc (by omega) hj'; omega)
        have I' := I tr'
        rw [ka_fo_t hm] at I'
        rw [show (((0 : Nat) : Int) - ((0 : Nat) : Int) + ka_w (ka_V true) c i) = ka_w (ka_V true) c i by omega]
        refine pk_eq (ka_fq true c) 0 (fun e => ek_if (ka_Ie (by omega) (by omega) (by omega) (by omega)) (fun z => nm_r (nI_1 i) ?_) (fun z => nm_r (nI_1 i) ?_)) (fun e => ek_if (ka_Ie (by omega) (by omega) (by omega) (by omega)) (fun z => nm_r (nI_1 i) ?_) (fun z => nm_r (nI_1 i) ?_))
        · rw [if_pos e, if_neg (by omega)] at I'
          exact I'
        · rw [if_pos e, if_pos (by omega)] at I'
          exact I'
        · rw [if_neg e, if_neg (by omega)] at I'
          exact I'
        · rw [if_neg e, if_pos (by omega)] at I'
          exact I'
      · have I' := I tr
        rw [ka_fo_f hm] at I'
        exact I'
  unfold wpX_leadFor__leastLeads
  dsimp only
  refine xa_io_layout hA (fun j hj => ka_stb hc hj) (fun o => br_f (by decide) (xa_cb_layout_trial (fun t ht => xa_bh_trial (ka_Ae hA (fun _ _ => rfl) ht) (fun a ha => ?_)))) (fun o => br_t rfl ?_)
  · have K' := K a
    rw [ka_Ve true hc, if_pos (ka_sto.mp o)] at K'
    have e6 : a 6 = nI (ka_s0 c) := by
      rw [ha 6 (by omega), ka_bm6 _ (by omega)]
      exact congrArg nI (by show 0 + ka_s0 c + 0 = ka_s0 c; omega)
    have e7 : a 7 = nI (ka_s1 c) := by
      rw [ha 7 (by omega), ka_bm6 _ (by omega)]
      exact congrArg nI (by show 0 + ka_s1 c + 0 = ka_s1 c; omega)
    dsimp only
    rw [e6, e7, ka_In, ka_In, ka_Is]
    exact K'
  · have ov : ka_over c = false := by
      cases q : ka_over c with
      | false => rfl
      | true => exact absurd (ka_sto.mpr q) o
    have L' := L ov 6 0 7 tr rfl (by omega)
    have e0 : ka_fo (ka_fq true c) (ka_w (ka_V true) c) (ka_mv c) 0 = if ka_fq true c = 0 then -100 else 100 := rfl
    rw [e0] at L'
    refine pk_eq (ka_fq true c) 0 (fun e => ⟨7, ?_⟩) (fun e => ⟨7, ?_⟩)
    · rw [if_pos e] at L'
      exact L'
    · rw [if_neg e] at L'
      exact L'
end
section
variable {fm fx fk : Int32} {bd rc lb li : Nat → Int32}
theorem xa_fl16 {post : SX → Prop} {J : _} {n : Nat} {lo : Nat → Int32} (hL : xa_L lb) (hn : n < 924) (hY : xa_Y n 0 lo) (K : ∀ fl le tr, xa_Zp false fl n 2 → xa_Zp true le n 2 → J (nI (n + 1)) fm fx fk bd rc lb fl le lo tr li) :
    ∀ d p m fl le tr, p + d = 2 → d < m → xa_Zp false fl n p → xa_Zp true le n p → wX_fillLeads_16 post J (nI n) m (nI p) fm fx fk bd rc lb fl le lo tr li := by
  intro d
  induction d with
  | zero =>
    intro p m fl le tr hp hm h1 h2
    obtain ⟨m, rfl⟩ : ∃ k, m = k + 1 := ⟨m - 1, by omega⟩
    obtain rfl : p = 2 := by omega
    rw [wX_fillLeads_16]
    exact br_t (by decide) (nm_r (nI_1 n) (K fl le tr h1 h2))
  | succ d ih =>
    intro p m fl le tr hp hm h1 h2
    obtain ⟨m, rfl⟩ : ∃ k, m = k + 1 := ⟨m - 1, by omega⟩
    have p2 : p < 2 := by omega
    obtain ⟨hc, hX⟩ := ka_lyo hn p2
    have hP : ka_pl (ka_ly n + 262144 * p) = p := (ka_lyd hn p2).2.2.2.2.2.2
    have hA := xa_YA hn p2 hY
    have e3 : nI n * 2 + nI p = nI (2 * n + p) := by
      rw [show nI n * 2 = nI (n * 2) from pk_mul n 2, nI_add]
      exact congrArg nI (by omega)
    have w3 : vp_in (nI (2 * n + p)) 1848 := vp_in_nI (by omega) (by omega)
    have c3 : (nI (2 * n + p)).toNatClampNeg = 2 * n + p := nI_clamp (by omega)
    have F := fun post tr K => @xa_lf_fairLeads fm fx fk bd rc lb fl le lo li post _ tr hc hL hA (fun d hd hx => h1 d hd (Or.inl (by omega))) K
    have G := fun post fl tr K => @xa_lf_leastLeads fm fx fk bd rc lb fl le lo li post _ tr hc hL hA (fun d hd hx => h2 d hd (Or.inl (by omega))) K
    have q1 : ka_fq false (ka_ly n + 262144 * p) = p := hP
    have q2 : ka_fq true (ka_ly n + 262144 * p) = 1 := rfl
    rw [hP, q1] at F
    rw [hP, q2] at G
    rw [wX_fillLeads_16]
    refine br_f (nI_ge (b := 2) (by omega) (by omega)) (nm_r e3 (F _ tr (fun tr' => ⟨w3, nm_r (e' := upd fl (2 * n + p) (ka_I (ka_V false (ka_ly n + 262144 * p)))) (by rw [c3]) (G _ _ tr' (fun tr2 => ⟨w3, nm_r (e' := upd le (2 * n + p) (ka_I (ka_V true (ka_ly n + 262144 * p)))) (by rw [c3]) (nm_r (nI_1 p) ?_)⟩))⟩)))
    exact ih (p + 1) m _ _ _ (by omega) (by omega) (xa_Zu hn p2 h1) (xa_Zu hn p2 h2)
theorem xa_fl {post : SX → Prop} {fl le lo tr : Nat → Int32} (hL : xa_L lb) (h6 : lo 6 = 0) (h7 : lo 7 = 0) (K : ∀ fl le lo tr, xa_Z false fl 924 → xa_Z true le 924 → post (fm, fx, fk, bd, rc, lb, fl, le, lo, tr, li)) : wpX_fillLeads post (fm, fx, fk, bd, rc, lb, fl, le, lo, tr, li) := by
  have L : ∀ d n m fl le lo tr, n + d = 924 → d < m → lo 6 = 0 → lo 7 = 0 → xa_Z false fl n → xa_Z true le n → wX_fillLeads_2 post m (nI n) fm fx fk bd rc lb fl le lo tr li := by
    intro d
    induction d with
    | zero =>
      intro n m fl le lo tr hi hm h6 h7 h1 h2
      obtain ⟨m, rfl⟩ : ∃ k, m = k + 1 := ⟨m - 1, by omega⟩
      obtain rfl : n = 924 := by omega
      rw [wX_fillLeads_2]
      exact br_t (by decide) (K fl le lo tr h1 h2)
    | succ d ih =>
      intro n m fl le lo tr hi hm h6 h7 h1 h2
      obtain ⟨m, rfl⟩ : ∃ k, m = k + 1 := ⟨m - 1, by omega⟩
      rw [wX_fillLeads_2]
      refine br_f (nI_ge (b := 924) (by omega) (by omega)) (xa_sy hL (by omega) h6 h7 (fun lo' hY => ⟨3, xa_fl16 hL (by omega) hY (fun fl le tr z1 z2 => ih (n + 1) m fl le lo' tr (by omega) (by omega) hY.2.2.1 hY.2.2.2 (fun c hc hx => z1 c hc ?_) (fun c hc hx => z2 c hc ?_)) 2 0 3 fl le tr rfl (by omega) (fun c hc hx => h1 c hc (by omega)) (fun c hc hx => h2 c hc (by omega))⟩))
      · have := ka_pl2 hc
        omega
      · have := ka_pl2 hc
        omega
  exact ⟨925, L 924 0 925 fl le lo tr rfl (by omega) h6 h7 (fun c hc hx => absurd hx (by omega)) (fun c hc hx => absurd hx (by omega))⟩
theorem xa_in {post : SX → Prop} (K : ∀ bd lb fl le lo tr, ka_A bd (ka_st 37449) 0 0 → xa_L lb → xa_Z false fl 924 → xa_Z true le 924 → post (nI 0, nI 0, nI 0, bd, (fun _ => 0), lb, fl, le, lo, tr, (fun _ => 0))) : wpX_init post := by
  have L : ∀ d i n bd, i + d = 6 → d < n → (∀ j, j < i → bd j = nI 1) → bd 6 = 0 → bd 7 = 0 → wX_init_73 post 0 0 0 n (nI i) bd (fun _ => 0) (fun _ => 0) (fun _ => 0) (fun _ => 0) (fun _ => 0) (fun _ => 0) (fun _ => 0) := by
    intro d
    induction d with
    | zero =>
      intro i n bd hi hn hb h6 h7
      obtain ⟨n, rfl⟩ : ∃ m, n = m + 1 := ⟨n - 1, by omega⟩
      obtain rfl : i = 6 := by omega
      rw [wX_init_73]
      refine br_t (by decide) ?_
      refine xa_cl (lb := fun _ => 0) ⟨fun j hj => absurd hj (by omega), fun j hj => rfl⟩ (fun lb hL => xa_fl hL rfl rfl (fun fl le lo tr z1 z2 => K _ _ _ _ _ _ (fun j hj => ?_) hL z1 z2))
      rcases (by omega : j < 6 ∨ j = 6 ∨ j = 7) with y | rfl | rfl
      · rw [hb j y]
        refine congrArg nI ?_
        rw [ka_bs6 y]
        exact ka_6 (P := fun j => 1 = ka_st 37449 j + 0) (by decide +kernel) (by decide +kernel) (by decide +kernel) (by decide +kernel) (by decide +kernel) (by decide +kernel) y
      · exact h6
      · exact h7
    | succ d ih =>
      intro i n bd hi hn hb h6 h7
      obtain ⟨n, rfl⟩ : ∃ m, n = m + 1 := ⟨n - 1, by omega⟩
      rw [wX_init_73]
      refine br_f (nI_ge (b := 6) (by omega) (by omega)) ⟨vp_in_nI (by omega) (by omega), nm_r (e' := upd bd i 1) (by rw [nI_clamp (by omega)]) (nm_r (nI_1 i) (ih (i + 1) n _ (by omega) (by omega) (fun j hj => ?_) ?_ ?_))⟩
      · by_cases y : j = i
        · rw [y, pk_us]; rfl
        · rw [pk_un y]; exact hb j (by omega)
      · rw [pk_un (by omega)]; exact h6
      · rw [pk_un (by omega)]; exact h7
  exact ⟨7, L 6 0 7 _ rfl (by omega) (fun j hj => absurd hj (by omega)) rfl rfl⟩
end
