/-! ===== the component: moves on an array of eight places ===== -/
theorem ka_Ast {a : Nat → Int32} {c A B : Nat} {j : Nat} (h : ka_A a (ka_st c) A B) (hj : j < 6) : a j = nI (ka_sd c j) := by
  rw [ka_A6 h hj]
  exact congrArg nI (if_pos hj)
theorem ka_stb {c : Nat} (hc : ka_ok c) {j : Nat} (hj : j < 6) : ka_st c j ≤ 12 := by
  have := ka_sdb hc hj
  unfold ka_st
  rw [if_pos hj]
  omega
theorem ka_sto {c : Nat} : (ka_st c 0 + ka_st c 1 + ka_st c 2 = 0 ∨ ka_st c 3 + ka_st c 4 + ka_st c 5 = 0) ↔ ka_over c = true := ka_ovI.symm
theorem ka_mvF {c h : Nat} (z : ¬ (h / 3 = ka_pl c ∧ 0 < ka_sd c h ∧ ka_over c = false)) : ka_mv c h = false := by
  cases e : ka_mv c h with
  | false => rfl
  | true => exact absurd (ka_mvI.mp e) z
theorem ka_Afn {a : Nat → Int32} {c h A B : Nat} (hc : ka_ok c) (hh : h < 6) (hm : ka_mv c h = true) (H : ka_A a (ka_fin c h) A B) : ka_A a (ka_st (ka_nx c h)) (A + ka_fin c h 6) (B + ka_fin c h 7) := by
  intro j hj
  rw [H j hj]
  refine congrArg nI ?_
  rcases (by omega : j < 6 ∨ j = 6 ∨ j = 7) with z | z | z
  · unfold ka_st
    rw [if_pos z, ka_dj hc hh hm z, ka_bs6 z, ka_bs6 z]
  · subst z
    show ka_fin c h 6 + A = 0 + (A + ka_fin c h 6)
    omega
  · subst z
    show ka_fin c h 7 + B = 0 + (B + ka_fin c h 7)
    omega
theorem ka_Ae {a b : Nat → Int32} {g f : Nat → Nat} {A B : Nat} (h : ka_A a g A B) (e : ∀ j, j < 8 → f j = g j) (q : ∀ j, j < 8 → b j = a j) : ka_A b f A B := fun j hj => by rw [q j hj, h j hj, e j hj]
theorem ka_bmh {g : Nat → Nat} (hz : g 0 + g 1 + g 2 = 0 ∨ g 3 + g 4 + g 5 = 0) {j : Nat} (hj : j < 8) : ka_hm g j = ka_bm g 6 j := by
  rw [ka_bm6 g hj]
  unfold ka_hm
  rw [if_pos hz]
section
variable {fm fx fk : Int32} {bd rc lb fl le lo tr li : Nat → Int32}
theorem xa_io_layout {post : Int32 → Prop} {g : Nat → Nat} {A B : Nat} (hA : ka_A lo g A B) (hg : ∀ j, j < 6 → g j ≤ 12) (H1 : (g 0 + g 1 + g 2 = 0 ∨ g 3 + g 4 + g 5 = 0) → post 1) (H0 : ¬ (g 0 + g 1 + g 2 = 0 ∨ g 3 + g 4 + g 5 = 0) → post 0) : wpX_isOver__layout post (fm, fx, fk, bd, rc, lb, fl, le, lo, tr, li) := by
  have g0 := hg 0 (by omega)
  have g1 := hg 1 (by omega)
  have g2 := hg 2 (by omega)
  have g3 := hg 3 (by omega)
  have g4 := hg 4 (by omega)
  have g5 := hg 5 (by omega)
  have e0 : lo 0 + lo 1 + lo 2 = nI (g 0 + g 1 + g 2) := by rw [ka_A6 hA (by omega), ka_A6 hA (by omega), ka_A6 hA (by omega), nI_add, nI_add]
  have e1 : lo 3 + lo 4 + lo 5 = nI (g 3 + g 4 + g 5) := by rw [ka_A6 hA (by omega), ka_A6 hA (by omega), ka_A6 hA (by omega), nI_add, nI_add]
  exact pk_eq (g 0 + g 1 + g 2) 0 (fun e => H1 (Or.inl e)) (fun e => pk_eq (g 3 + g 4 + g 5) 0 (fun e' => H1 (Or.inr e')) (fun e' => H0 (by omega)) (hx := e1)) (hx := e0)
theorem xa_io_trial {post : Int32 → Prop} {g : Nat → Nat} {A B : Nat} (hA : ka_A tr g A B) (hg : ∀ j, j < 6 → g j ≤ 12) (H1 : (g 0 + g 1 + g 2 = 0 ∨ g 3 + g 4 + g 5 = 0) → post 1) (H0 : ¬ (g 0 + g 1 + g 2 = 0 ∨ g 3 + g 4 + g 5 = 0) → post 0) : wpX_isOver__trial post (fm, fx, fk, bd, rc, lb, fl, le, lo, tr, li) := by
  have g0 := hg 0 (by omega)
  have g1 := hg 1 (by omega)
  have g2 := hg 2 (by omega)
  have g3 := hg 3 (by omega)
  have g4 := hg 4 (by omega)
  have g5 := hg 5 (by omega)
  have e0 : tr 0 + tr 1 + tr 2 = nI (g 0 + g 1 + g 2) := by rw [ka_A6 hA (by omega), ka_A6 hA (by omega), ka_A6 hA (by omega), nI_add, nI_add]
  have e1 : tr 3 + tr 4 + tr 5 = nI (g 3 + g 4 + g 5) := by rw [ka_A6 hA (by omega), ka_A6 hA (by omega), ka_A6 hA (by omega), nI_add, nI_add]
  exact pk_eq (g 0 + g 1 + g 2) 0 (fun e => H1 (Or.inl e)) (fun e => pk_eq (g 3 + g 4 + g 5) 0 (fun e' => H1 (Or.inr e')) (fun e' => H0 (by omega)) (hx := e1)) (hx := e0)
theorem xa_io_board {post : Int32 → Prop} {g : Nat → Nat} {A B : Nat} (hA : ka_A bd g A B) (hg : ∀ j, j < 6 → g j ≤ 12) (H1 : (g 0 + g 1 + g 2 = 0 ∨ g 3 + g 4 + g 5 = 0) → post 1) (H0 : ¬ (g 0 + g 1 + g 2 = 0 ∨ g 3 + g 4 + g 5 = 0) → post 0) : wpX_isOver__board post (fm, fx, fk, bd, rc, lb, fl, le, lo, tr, li) := by
  have g0 := hg 0 (by omega)
  have g1 := hg 1 (by omega)
  have g2 := hg 2 (by omega)
  have g3 := hg 3 (by omega)
  have g4 := hg 4 (by omega)
  have g5 := hg 5 (by omega)
  have e0 : bd 0 + bd 1 + bd 2 = nI (g 0 + g 1 + g 2) := by rw [ka_A6 hA (by omega), ka_A6 hA (by omega), ka_A6 hA (by omega), nI_add, nI_add]
  have e1 : bd 3 + bd 4 + bd 5 = nI (g 3 + g 4 + g 5) := by rw [ka_A6 hA (by omega), ka_A6 hA (by omega), ka_A6 hA (by omega), nI_add, nI_add]
  exact pk_eq (g 0 + g 1 + g 2) 0 (fun e => H1 (Or.inl e)) (fun e => pk_eq (g 3 + g 4 + g 5) 0 (fun e' => H1 (Or.inr e')) (fun e' => H0 (by omega)) (hx := e1)) (hx := e0)
theorem xa_io_line {post : Int32 → Prop} {g : Nat → Nat} {A B : Nat} (hA : ka_A li g A B) (hg : ∀ j, j < 6 → g j ≤ 12) (H1 : (g 0 + g 1 + g 2 = 0 ∨ g 3 + g 4 + g 5 = 0) → post 1) (H0 : ¬ (g 0 + g 1 + g 2 = 0 ∨ g 3 + g 4 + g 5 = 0) → post 0) : wpX_isOver__line post (fm, fx, fk, bd, rc, lb, fl, le, lo, tr, li) := by
  have g0 := hg 0 (by omega)
  have g1 := hg 1 (by omega)
  have g2 := hg 2 (by omega)
  have g3 := hg 3 (by omega)
  have g4 := hg 4 (by omega)
  have g5 := hg 5 (by omega)
  have e0 : li 0 + li 1 + li 2 = nI (g 0 + g 1 + g 2) := by rw [ka_A6 hA (by omega), ka_A6 hA (by omega), ka_A6 hA (by omega), nI_add, nI_add]
  have e1 : li 3 + li 4 + li 5 = nI (g 3 + g 4 + g 5) := by rw [ka_A6 hA (by omega), ka_A6 hA (by omega), ka_A6 hA (by omega), nI_add, nI_add]
  exact pk_eq (g 0 + g 1 + g 2) 0 (fun e => H1 (Or.inl e)) (fun e => pk_eq (g 3 + g 4 + g 5) 0 (fun e' => H1 (Or.inr e')) (fun e' => H0 (by omega)) (hx := e1)) (hx := e0)
theorem xa_im_layout {post : Int32 → Prop} {c h A B : Nat} (hc : ka_ok c) (hh : h < 6) (hA : ka_A lo (ka_st c) A B) (H1 : ka_mv c h = true → post 1) (H0 : ka_mv c h = false → post 0) : wpX_isMove__layout post (fm, fx, fk, bd, rc, lb, fl, le, lo, tr, li) (nI (ka_pl c)) (nI h) := by
  have p2 := ka_pl2 hc
  have s := ka_sd8 c h
  have w : vp_in (nI h) 8 := vp_in_nI (by omega) (by omega)
  have e1 : lo (nI h).toNatClampNeg = nI (ka_sd c h) := by rw [nI_clamp (by omega)]; exact ka_Ast hA hh
  refine ⟨by decide, pk_eq (h / 3) (ka_pl c) (fun e => ⟨w, ?_⟩) (fun e => H0 (ka_mvF (fun z => e z.1))) (hx := pk_div (d := 3) (by omega) (by omega) (by omega))⟩
  refine pk_le (ka_sd c h) 0 (fun e' => H0 (ka_mvF (fun z => by omega))) (fun e' => xa_io_layout hA (fun j hj => ka_stb hc hj) (fun o => br_f (by decide) (H0 (ka_mvF (fun z => ?_)))) (fun o => br_t rfl (H1 (ka_mvI.mpr ⟨e, e', ?_⟩)))) (hx := e1)
  · have o := ka_sto.mp o
    rw [o] at z
    cases z.2.2
  · cases q : ka_over c with
    | false => rfl
    | true => exact absurd (ka_sto.mpr q) o
theorem xa_im_board {post : Int32 → Prop} {c h A B : Nat} (hc : ka_ok c) (hh : h < 6) (hA : ka_A bd (ka_st c) A B) (H1 : ka_mv c h = true → post 1) (H0 : ka_mv c h = false → post 0) : wpX_isMove__board post (fm, fx, fk, bd, rc, lb, fl, le, lo, tr, li) (nI (ka_pl c)) (nI h) := by
  have p2 := ka_pl2 hc
  have s := ka_sd8 c h
  have w : vp_in (nI h) 8 := vp_in_nI (by omega) (by omega)
  have e1 : bd (nI h).toNatClampNeg = nI (ka_sd c h) := by rw [nI_clamp (by omega)]; exact ka_Ast hA hh
  refine ⟨by decide, pk_eq (h / 3) (ka_pl c) (fun e => ⟨w, ?_⟩) (fun e => H0 (ka_mvF (fun z => e z.1))) (hx := pk_div (d := 3) (by omega) (by omega) (by omega))⟩
  refine pk_le (ka_sd c h) 0 (fun e' => H0 (ka_mvF (fun z => by omega))) (fun e' => xa_io_board hA (fun j hj => ka_stb hc hj) (fun o => br_f (by decide) (H0 (ka_mvF (fun z => ?_)))) (fun o => br_t rfl (H1 (ka_mvI.mpr ⟨e, e', ?_⟩)))) (hx := e1)
  · have o := ka_sto.mp o
    rw [o] at z
    cases z.2.2
  · cases q : ka_over c with
    | false => rfl
    | true => exact absurd (ka_sto.mpr q) o
theorem xa_im_line {post : Int32 → Prop} {c h A B : Nat} (hc : ka_ok c) (hh : h < 6) (hA : ka_A li (ka_st c) A B) (H1 : ka_mv c h = true → post 1) (H0 : ka_mv c h = false → post 0) : wpX_isMove__line post (fm, fx, fk, bd, rc, lb, fl, le, lo, tr, li) (nI (ka_pl c)) (nI h) := by
  have p2 := ka_pl2 hc
  have s := ka_sd8 c h
  have w : vp_in (nI h) 8 := vp_in_nI (by omega) (by omega)
  have e1 : li (nI h).toNatClampNeg = nI (ka_sd c h) := by rw [nI_clamp (by omega)]; exact ka_Ast hA hh
  refine ⟨by decide, pk_eq (h / 3) (ka_pl c) (fun e => ⟨w, ?_⟩) (fun e => H0 (ka_mvF (fun z => e z.1))) (hx := pk_div (d := 3) (by omega) (by omega) (by omega))⟩
  refine pk_le (ka_sd c h) 0 (fun e' => H0 (ka_mvF (fun z => by omega))) (fun e' => xa_io_line hA (fun j hj => ka_stb hc hj) (fun o => br_f (by decide) (H0 (ka_mvF (fun z => ?_)))) (fun o => br_t rfl (H1 (ka_mvI.mpr ⟨e, e', ?_⟩)))) (hx := e1)
  · have o := ka_sto.mp o
    rw [o] at z
    cases z.2.2
  · cases q : ka_over c with
    | false => rfl
    | true => exact absurd (ka_sto.mpr q) o
theorem xa_cb_layout_trial {post : SX → Prop} (K : ∀ t, (∀ j, j < 8 → t j = lo j) → post (fm, fx, fk, bd, rc, lb, fl, le, lo, t, li)) : wpX_copyBoard__layout_trial post (fm, fx, fk, bd, rc, lb, fl, le, lo, tr, li) := by
  have L : ∀ d i n t, i + d = 8 → d < n → (∀ j, j < i → t j = lo j) → wX_copyBoard__layout_trial_2 post fm fx fk n (nI i) bd rc lb fl le lo t li := by
    intro d
    induction d with
    | zero =>
      intro i n t hi hn ht
      obtain ⟨n, rfl⟩ : ∃ m, n = m + 1 := ⟨n - 1, by omega⟩
      obtain rfl : i = 8 := by omega
      rw [wX_copyBoard__layout_trial_2]
      exact br_t (by decide) (K t ht)
    | succ d ih =>
      intro i n t hi hn ht
      obtain ⟨n, rfl⟩ : ∃ m, n = m + 1 := ⟨n - 1, by omega⟩
      rw [wX_copyBoard__layout_trial_2]
      have w : vp_in (nI i) 8 := vp_in_nI (by omega) (by omega)
      refine br_f (nI_ge (b := 8) (by omega) (by omega)) ⟨w, w, nm_r (e' := upd t i (lo i)) (by rw [nI_clamp (by omega)]) (nm_r (nI_1 i) (ih (i + 1) n _ (by omega) (by omega) (fun j hj => ?_)))⟩
      by_cases z : j = i
      · rw [z, pk_us]
      · rw [pk_un z]; exact ht j (by omega)
  exact ⟨9, L 8 0 9 _ rfl (by omega) (fun j hj => absurd hj (by omega))⟩
theorem xa_cb_board_trial {post : SX → Prop} (K : ∀ t, (∀ j, j < 8 → t j = bd j) → post (fm, fx, fk, bd, rc, lb, fl, le, lo, t, li)) : wpX_copyBoard__board_trial post (fm, fx, fk, bd, rc, lb, fl, le, lo, tr, li) := by
  have L : ∀ d i n t, i + d = 8 → d < n → (∀ j, j < i → t j = bd j) → wX_copyBoard__board_trial_2 post fm fx fk n (nI i) bd rc lb fl le lo t li := by
    intro d
    induction d with
    | zero =>
      intro i n t hi hn ht
      obtain ⟨n, rfl⟩ : ∃ m, n = m + 1 := ⟨n - 1, by omega⟩
      obtain rfl : i = 8 := by omega
      rw [wX_copyBoard__board_trial_2]
      exact br_t (by decide) (K t ht)
    | succ d ih =>
      intro i n t hi hn ht
      obtain ⟨n, rfl⟩ : ∃ m, n = m + 1 := ⟨n - 1, by omega⟩
      rw [wX_copyBoard__board_trial_2]
      have w : vp_in (nI i) 8 := vp_in_nI (by omega) (by omega)
      refine br_f (nI_ge (b := 8) (by omega) (by omega)) ⟨w, w, nm_r (e' := upd t i (bd i)) (by rw [nI_clamp (by omega)]) (nm_r (nI_1 i) (ih (i + 1) n _ (by omega) (by omega) (fun j hj => ?_)))⟩
      by_cases z : j = i
      · rw [z, pk_us]
      · rw [pk_un z]; exact ht j (by omega)
  exact ⟨9, L 8 0 9 _ rfl (by omega) (fun j hj => absurd hj (by omega))⟩
theorem xa_cb_line_trial {post : SX → Prop} (K : ∀ t, (∀ j, j < 8 → t j = li j) → post (fm, fx, fk, bd, rc, lb, fl, le, lo, t, li)) : wpX_copyBoard__line_trial post (fm, fx, fk, bd, rc, lb, fl, le, lo, tr, li) := by
  have L : ∀ d i n t, i + d = 8 → d < n → (∀ j, j < i → t j = li j) → wX_copyBoard__line_trial_2 post fm fx fk n (nI i) bd rc lb fl le lo t li := by
    intro d
    induction d with
    | zero =>
      intro i n t hi hn ht
      obtain ⟨n, rfl⟩ : ∃ m, n = m + 1 := ⟨n - 1, by omega⟩
      obtain rfl : i = 8 := by omega
      rw [wX_copyBoard__line_trial_2]
      exact br_t (by decide) (K t ht)
    | succ d ih =>
      intro i n t hi hn ht
      obtain ⟨n, rfl⟩ : ∃ m, n = m + 1 := ⟨n - 1, by omega⟩
      rw [wX_copyBoard__line_trial_2]
      have w : vp_in (nI i) 8 := vp_in_nI (by omega) (by omega)
      refine br_f (nI_ge (b := 8) (by omega) (by omega)) ⟨w, w, nm_r (e' := upd t i (li i)) (by rw [nI_clamp (by omega)]) (nm_r (nI_1 i) (ih (i + 1) n _ (by omega) (by omega) (fun j hj => ?_)))⟩
      by_cases z : j = i
      · rw [z, pk_us]
      · rw [pk_un z]; exact ht j (by omega)
  exact ⟨9, L 8 0 9 _ rfl (by omega) (fun j hj => absurd hj (by omega))⟩
theorem xa_cb_board_line {post : SX → Prop} (K : ∀ t, (∀ j, j < 8 → t j = bd j) → post (fm, fx, fk, bd, rc, lb, fl, le, lo, tr, t)) : wpX_copyBoard__board_line post (fm, fx, fk, bd, rc, lb, fl, le, lo, tr, li) := by
  have L : ∀ d i n t, i + d = 8 → d < n → (∀ j, j < i → t j = bd j) → wX_copyBoard__board_line_2 post fm fx fk n (nI i) bd rc lb fl le lo tr t := by
    intro d
    induction d with
    | zero =>
      intro i n t hi hn ht
      obtain ⟨n, rfl⟩ : ∃ m, n = m + 1 := ⟨n - 1, by omega⟩
      obtain rfl : i = 8 := by omega
      rw [wX_copyBoard__board_line_2]
      exact br_t (by decide) (K t ht)
    | succ d ih =>
      intro i n t hi hn ht
      obtain ⟨n, rfl⟩ : ∃ m, n = m + 1 := ⟨n - 1, by omega⟩
      rw [wX_copyBoard__board_line_2]
      have w : vp_in (nI i) 8 := vp_in_nI (by omega) (by omega)
      refine br_f (nI_ge (b := 8) (by omega) (by omega)) ⟨w, w, nm_r (e' := upd t i (bd i)) (by rw [nI_clamp (by omega)]) (nm_r (nI_1 i) (ih (i + 1) n _ (by omega) (by omega) (fun j hj => ?_)))⟩
      by_cases z : j = i
      · rw [z, pk_us]
      · rw [pk_un z]; exact ht j (by omega)
  exact ⟨9, L 8 0 9 _ rfl (by omega) (fun j hj => absurd hj (by omega))⟩
theorem xa_78_trial {post : Int32 → SX → Prop} {J : _} {x3 x4 x5 x6 : Int32} {q i A B : Nat} {g : Nat → Nat} {a : Nat → Int32} (hA : ka_A a g A B) (hq : q < 8) (K : ∀ a', ka_A a' (ka_up g q (g q + 1)) A B → J (nI q) (nI (i + 1)) bd rc lb fl le lo a' li) : wX_sow__trial_78 post J x3 x4 x5 x6 (nI q) (nI i) fm fx fk bd rc lb fl le lo a li := by
  have w : vp_in (nI q) 8 := vp_in_nI hq (by omega)
  refine ⟨w, w, nm_e (nm_r (nI_1 i) (K _ ?_))⟩
  rw [nI_clamp (by omega)]
  refine ka_Au hA ?_
  rw [hA q hq, nI_1]
  exact congrArg nI (by omega)
theorem xa_sl_trial {post : Int32 → SX → Prop} {p d A B : Nat} (hp : p < 2) (hd : d ≤ 6) : ∀ r i n g t a, i + r = d → r < n → ka_A a g A B → (t = 6 + p ∨ t < 6) →
    (∀ a', ka_A a' (ka_sw p r g t).1 A B → post (nI (ka_sw p r g t).2) (fm, fx, fk, bd, rc, lb, fl, le, lo, a', li)) → wX_sow__trial_36 post (nI (6 + p)) (nI (3 * p + 2)) (nI (3 * (1 - p))) (nI d) fm fx fk n (nI t) (nI i) bd rc lb fl le lo a li := by
  intro r
  induction r with
  | zero =>
    intro i n g t a hi hn hA ht K
    obtain ⟨n, rfl⟩ : ∃ m, n = m + 1 := ⟨n - 1, by omega⟩
    rw [wX_sow__trial_36]
    exact br_t (nI_le (by omega) (by omega)) (K a hA)
  | succ r ih =>
    intro i n g t a hi hn hA ht K
    obtain ⟨n, rfl⟩ : ∃ m, n = m + 1 := ⟨n - 1, by omega⟩
    rw [wX_sow__trial_36]
    have S : ∀ q, ka_nt p t = q → wX_sow__trial_78 post (wX_sow__trial_36 post (nI (6 + p)) (nI (3 * p + 2)) (nI (3 * (1 - p))) (nI d) fm fx fk n) (nI (6 + p)) (nI (3 * p + 2)) (nI (3 * (1 - p))) (nI d) (nI q) (nI i) fm fx fk bd rc lb fl le lo a li := by
      intro q hq
      have q8 := ka_nt8 (p := p) (t := t) hp
      exact xa_78_trial hA (by omega) (fun a' h' => ih (i + 1) n _ q a' (by omega) (by omega) h' (by omega) (by subst hq; exact K))
    refine br_f (nI_ge (by omega) (by omega)) (pk_eq t (3 * p + 2) (fun e => S _ (if_pos e)) (fun e => pk_eq t (6 + p) (fun e' => S _ ((if_neg e).trans (if_pos e'))) (fun e' => ⟨by decide, nm_r (e' := nI ((t + 1) % 6)) ?_ (S _ ((if_neg e).trans (if_neg e')))⟩)))
    rw [nI_1]
    exact pk_rem (d := 6) (by omega) (by omega) (by omega)
theorem xa_sw_trial {post : Int32 → SX → Prop} {p h d A B : Nat} {g : Nat → Nat} (hp : p < 2) (hh : h < 6) (hA : ka_A tr g A B) (hd : g h = d) (hd6 : d ≤ 6)
    (K : ∀ a', ka_A a' (ka_sw p d (ka_up g h 0) h).1 A B → post (nI (ka_sw p d (ka_up g h 0) h).2) (fm, fx, fk, bd, rc, lb, fl, le, lo, a', li)) : wpX_sow__trial post (fm, fx, fk, bd, rc, lb, fl, le, lo, tr, li) (nI p) (nI h) := by
  have w : vp_in (nI h) 8 := vp_in_nI (by omega) (by omega)
  have e : (nI h).toNatClampNeg = h := nI_clamp (by omega)
  have e4 : (nI p * 3 + 3) - 1 = nI (3 * p + 2) := by
    rw [show nI p * 3 = nI (p * 3) from pk_mul p 3, show nI (p * 3) + 3 = nI (p * 3 + 3) from nI_add _ 3, show nI (p * 3 + 3) - 1 = nI (p * 3 + 3 - 1) from pk_sub (b := 1) (by omega)]
    exact congrArg nI (by omega)
  have e5 : (1 - nI p) * 3 = nI (3 * (1 - p)) := by
    rw [show (1 : Int32) - nI p = nI (1 - p) from pk_sub (a := 1) (by omega), show nI (1 - p) * 3 = nI ((1 - p) * 3) from pk_mul _ 3]
    exact congrArg nI (by omega)
  refine nm_r (e' := nI (6 + p)) (nI_add 6 p) (nm_r e4 (nm_r e5 ⟨w, nm_r (e' := nI d) (by rw [e, ka_A6 hA hh, hd]) ⟨w, nm_r (e' := upd tr h 0) (by rw [e]) ⟨d + 1, ?_⟩⟩⟩))
  exact xa_sl_trial hp hd6 d 0 (d + 1) (ka_up g h 0) h _ (by omega) (by omega) (ka_Au hA (by rw [ka_bs6 hh]; rfl)) (Or.inr hh) K
theorem xa_cp_trial {post : SX → Prop} {p t A B : Nat} {g : Nat → Nat} (hp : p < 2) (ht : t = 6 + p ∨ t < 6) (hA : ka_A tr g A B) (hg : ∀ j, g j ≤ 12) (K : ∀ a', ka_A a' (ka_cp p g t) A B → post (fm, fx, fk, bd, rc, lb, fl, le, lo, a', li)) : wpX_capture__trial post (fm, fx, fk, bd, rc, lb, fl, le, lo, tr, li) (nI p) (nI t) := by
  have N : ¬ (t < 6 ∧ t / 3 = p ∧ g t = 1 ∧ 0 < g (5 - t)) → post (fm, fx, fk, bd, rc, lb, fl, le, lo, tr, li) := fun z => K _ (by unfold ka_cp; rw [if_neg z]; exact hA)
  refine pk_le 6 t (fun h6 => N (by omega)) (fun h6 => ⟨by decide, ?_⟩)
  have b1 := hg t
  have b2 := hg (5 - t)
  have w : vp_in (nI t) 8 := vp_in_nI (by omega) (by omega)
  have c1 : (nI t).toNatClampNeg = t := nI_clamp (by omega)
  have w5 : vp_in (nI (5 - t)) 8 := vp_in_nI (by omega) (by omega)
  have c5 : (nI (5 - t)).toNatClampNeg = 5 - t := nI_clamp (by omega)
  have e6 : (6 : Int32) + nI p = nI (6 + p) := nI_add 6 p
  have w6 : vp_in (6 + nI p) 8 := by rw [e6]; exact vp_in_nI (by omega) (by omega)
  have c6 : (6 + nI p).toNatClampNeg = 6 + p := by rw [e6]; exact nI_clamp (by omega)
  have h5 := ka_A6 hA (j := 5 - t) (by omega)
  refine pk_eq (t / 3) p (fun q1 => nm_r (e' := nI (5 - t)) (pk_sub (a := 5) (by omega)) ⟨w, ?_⟩) (fun q1 => N (fun z => q1 z.2.1)) (hx := pk_div (d := 3) (by omega) (by omega) (by omega))
  refine pk_eq (g t) 1 (fun q2 => ⟨w5, ?_⟩) (fun q2 => N (fun z => q2 z.2.2.1)) (hx := by rw [c1]; exact ka_A6 hA (by omega))
  refine pk_le (g (5 - t)) 0 (fun q3 => N (fun z => by omega)) (fun q3 => ?_) (hx := by rw [c5]; exact h5)
  refine ⟨w6, w5, w6, nm_r (e' := upd tr (6 + p) (nI (g (6 + p) + (1 + g (5 - t)) + ka_bs A B (6 + p)))) ?_ ⟨w, nm_r (e' := upd (upd tr (6 + p) (nI (g (6 + p) + (1 + g (5 - t)) + ka_bs A B (6 + p)))) t 0) (by rw [c1]) ⟨w5, nm_e (K _ ?_)⟩⟩⟩
  · rw [c6, c5, h5, hA (6 + p) (by omega), show (1 : Int32) + nI (g (5 - t)) = nI (1 + g (5 - t)) from nI_add 1 _, nI_add]
    exact congrArg (fun z => upd tr (6 + p) (nI z)) (by omega)
  · rw [c5]
    unfold ka_cp
    rw [if_pos ⟨by omega, q1, q2, q3⟩]
    exact ka_Au (ka_Au (ka_Au hA rfl) (by rw [ka_bs6 (by omega)]; rfl)) (by rw [ka_bs6 (by omega)]; rfl)
theorem xa_bh_trial {post : SX → Prop} {A B : Nat} {g : Nat → Nat} (hA : ka_A tr g A B) (K : ∀ a', ka_A a' (ka_bm g 6) A B → post (fm, fx, fk, bd, rc, lb, fl, le, lo, a', li)) : wpX_bringHome__trial post (fm, fx, fk, bd, rc, lb, fl, le, lo, tr, li) := by
  have L : ∀ d i n a, i + d = 6 → d < n → ka_A a (ka_bm g i) A B → wX_bringHome__trial_2 post fm fx fk n (nI i) bd rc lb fl le lo a li := by
    intro d
    induction d with
    | zero =>
      intro i n a hi hn ha
      obtain ⟨n, rfl⟩ : ∃ m, n = m + 1 := ⟨n - 1, by omega⟩
      obtain rfl : i = 6 := by omega
      rw [wX_bringHome__trial_2]
      exact br_t (by decide) (K a ha)
    | succ d ih =>
      intro i n a hi hn ha
      obtain ⟨n, rfl⟩ : ∃ m, n = m + 1 := ⟨n - 1, by omega⟩
      rw [wX_bringHome__trial_2]
      have w : vp_in (nI i) 8 := vp_in_nI (by omega) (by omega)
      have c1 : (nI i).toNatClampNeg = i := nI_clamp (by omega)
      have e6 : (6 : Int32) + nI i / 3 = nI (6 + i / 3) := by
        rw [show nI i / 3 = nI (i / 3) from pk_div (d := 3) (by omega) (by omega) (by omega)]
        exact nI_add 6 _
      have w6 : vp_in (6 + nI i / 3) 8 := by rw [e6]; exact vp_in_nI (by omega) (by omega)
      have c6 : (6 + nI i / 3).toNatClampNeg = 6 + i / 3 := by rw [e6]; exact nI_clamp (by omega)
      refine br_f (nI_ge (b := 6) (by omega) (by omega)) ⟨by decide, w6, w, w6, nm_r (e' := upd a (6 + i / 3) (nI (ka_bm g i (6 + i / 3) + ka_bm g i i + ka_bs A B (6 + i / 3)))) ?_ ⟨w, nm_r (e' := upd (upd a (6 + i / 3) (nI (ka_bm g i (6 + i / 3) + ka_bm g i i + ka_bs A B (6 + i / 3)))) i 0) (by rw [c1]) (nm_r (nI_1 i) (ih (i + 1) n _ (by omega) (by omega) ?_))⟩⟩
      · rw [c6, c1, ha (6 + i / 3) (by omega), ka_A6 ha (by omega), nI_add]
        exact congrArg (fun z => upd a (6 + i / 3) (nI z)) (by omega)
      · exact ka_Au (ka_Au ha rfl) (by rw [ka_bs6 (by omega)]; rfl)
  exact ⟨7, L 6 0 7 _ rfl (by omega) hA⟩
theorem xa_24_trial {post : Int32 → SX → Prop} {c h A B : Nat} (hc : ka_ok c) (hh : h < 6) (hm : ka_mv c h = true) (K : ∀ a', ka_A a' (ka_st (ka_nx c h)) (A + ka_fin c h 6) (B + ka_fin c h 7) → post (nI (ka_pl (ka_nx c h))) (fm, fx, fk, bd, rc, lb, fl, le, lo, a', li))
    {a : Nat → Int32} (hA : ka_A a (ka_fin c h) A B) : wX_makeMove__trial_24 post (nI (ka_pl c)) (nI (ka_s c h).2) fm fx fk bd rc lb fl le lo a li := by
  have K' := K a (ka_Afn hc hh hm hA)
  have p2 := ka_pl2 hc
  have t8 := ka_s8 hc hh
  rw [(ka_dn hc hh hm).2.2.2.2.2.2] at K'
  unfold ka_np at K'
  refine pk_eq (ka_s c h).2 (6 + ka_pl c) (fun e => ?_) (fun e => ?_) (hy := nI_add 6 _)
  · rw [if_pos e] at K'
    exact K'
  · rw [if_neg e] at K'
    rw [show (1 : Int32) - nI (ka_pl c) = nI (1 - ka_pl c) from pk_sub (a := 1) (by omega)]
    exact K'
theorem xa_mm_trial {post : Int32 → SX → Prop} {c h A B : Nat} (hc : ka_ok c) (hh : h < 6) (hm : ka_mv c h = true) (hA : ka_A tr (ka_st c) A B) (K : ∀ a', ka_A a' (ka_st (ka_nx c h)) (A + ka_fin c h 6) (B + ka_fin c h 7) → post (nI (ka_pl (ka_nx c h))) (fm, fx, fk, bd, rc, lb, fl, le, lo, a', li)) :
    wpX_makeMove__trial post (fm, fx, fk, bd, rc, lb, fl, le, lo, tr, li) (nI (ka_pl c)) (nI h) := by
  unfold wpX_makeMove__trial
  dsimp only
  refine xa_sw_trial (g := ka_st c) (d := ka_sd c h) (ka_pl2 hc) hh hA (if_pos hh) (ka_sdb hc hh) (fun a1 h1 => ?_)
  rw [show (ka_sw (ka_pl c) (ka_sd c h) (ka_up (ka_st c) h 0) h) = ka_s c h from rfl] at h1 ⊢
  dsimp only
  refine xa_cp_trial (ka_pl2 hc) (ka_s8 hc hh) h1 (fun j => ka_sb hc hh j) (fun a2 h2 => ?_)
  dsimp only
  refine xa_io_trial h2 (fun j hj => ka_cpb (ka_pl2 hc) (fun j => ka_sb hc hh j) hj) (fun o => br_f (by decide) (xa_bh_trial h2 (fun a3 h3 => xa_24_trial hc hh hm K ?_))) (fun o => br_t rfl (xa_24_trial hc hh hm K ?_))
  · exact ka_Ae h3 (fun j hj => ka_bmh o hj) (fun j hj => rfl)
  · have e : ka_fin c h = ka_cp (ka_pl c) (ka_s c h).1 (ka_s c h).2 := if_neg o
    rw [e]
    exact h2
theorem xa_78_board {post : Int32 → SX → Prop} {J : _} {x3 x4 x5 x6 : Int32} {q i A B : Nat} {g : Nat → Nat} {a : Nat → Int32} (hA : ka_A a g A B) (hq : q < 8) (K : ∀ a', ka_A a' (ka_up g q (g q + 1)) A B → J (nI q) (nI (i + 1)) a' rc lb fl le lo tr li) : wX_sow__board_78 post J x3 x4 x5 x6 (nI q) (nI i) fm fx fk a rc lb fl le lo tr li := by
  have w : vp_in (nI q) 8 := vp_in_nI hq (by omega)
  refine ⟨w, w, nm_e (nm_r (nI_1 i) (K _ ?_))⟩
  rw [nI_clamp (by omega)]
  refine ka_Au hA ?_
  rw [hA q hq, nI_1]
  exact congrArg nI (by omega)
theorem xa_sl_board {post : Int32 → SX → Prop} {p d A B : Nat} (hp : p < 2) (hd : d ≤ 6) : ∀ r i n g t a, i + r = d → r < n → ka_A a g A B → (t = 6 + p ∨ t < 6) →
    (∀ a', ka_A a' (ka_sw p r g t).1 A B → post (nI (ka_sw p r g t).2) (fm, fx, fk, a', rc, lb, fl, le, lo, tr, li)) → wX_sow__board_36 post (nI (6 + p)) (nI (3 * p + 2)) (nI (3 * (1 - p))) (nI d) fm fx fk n (nI t) (nI i) a rc lb fl le lo tr li := by
  intro r
  induction r with
  | zero =>
    intro i n g t a hi hn hA ht K
    obtain ⟨n, rfl⟩ : ∃ m, n = m + 1 := ⟨n - 1, by omega⟩
    rw [wX_sow__board_36]
    exact br_t (nI_le (by omega) (by omega)) (K a hA)
  | succ r ih =>
    intro i n g t a hi hn hA ht K
    obtain ⟨n, rfl⟩ : ∃ m, n = m + 1 := ⟨n - 1, by omega⟩
    rw [wX_sow__board_36]
    have S : ∀ q, ka_nt p t = q → wX_sow__board_78 post (wX_sow__board_36 post (nI (6 + p)) (nI (3 * p + 2)) (nI (3 * (1 - p))) (nI d) fm fx fk n) (nI (6 + p)) (nI (3 * p + 2)) (nI (3 * (1 - p))) (nI d) (nI q) (nI i) fm fx fk a rc lb fl le lo tr li := by
      intro q hq
      have q8 := ka_nt8 (p := p) (t := t) hp
      exact xa_78_board hA (by omega) (fun a' h' => ih (i + 1) n _ q a' (by omega) (by omega) h' (by omega) (by subst hq; exact K))
    refine br_f (nI_ge (by omega) (by omega)) (pk_eq t (3 * p + 2) (fun e => S _ (if_pos e)) (fun e => pk_eq t (6 + p) (fun e' => S _ ((if_neg e).trans (if_pos e'))) (fun e' => ⟨by decide, nm_r (e' := nI ((t + 1) % 6)) ?_ (S _ ((if_neg e).trans (if_neg e')))⟩)))
    rw [nI_1]
    exact pk_rem (d := 6) (by omega) (by omega) (by omega)
theorem xa_sw_board {post : Int32 → SX → Prop} {p h d A B : Nat} {g : Nat → Nat} (hp : p < 2) (hh : h < 6) (hA : ka_A bd g A B) (hd : g h = d) (hd6 : d ≤ 6)
    (K : ∀ a', ka_A a' (ka_sw p d (ka_up g h 0) h).1 A B → post (nI (ka_sw p d (ka_up g h 0) h).2) (fm, fx, fk, a', rc, lb, fl, le, lo, tr, li)) : wpX_sow__board post (fm, fx, fk, bd, rc, lb, fl, le, lo, tr, li) (nI p) (nI h) := by
  have w : vp_in (nI h) 8 := vp_in_nI (by omega) (by omega)
  have e : (nI h).toNatClampNeg = h := nI_clamp (by omega)
  have e4 : (nI p * 3 + 3) - 1 = nI (3 * p + 2) := by
    rw [show nI p * 3 = nI (p * 3) from pk_mul p 3, show nI (p * 3) + 3 = nI (p * 3 + 3) from nI_add _ 3, show nI (p * 3 + 3) - 1 = nI (p * 3 + 3 - 1) from pk_sub (b := 1) (by omega)]
    exact congrArg nI (by omega)
  have e5 : (1 - nI p) * 3 = nI (3 * (1 - p)) := by
    rw [show (1 : Int32) - nI p = nI (1 - p) from pk_sub (a := 1) (by omega), show nI (1 - p) * 3 = nI ((1 - p) * 3) from pk_mul _ 3]
    exact congrArg nI (by omega)
  refine nm_r (e' := nI (6 + p)) (nI_add 6 p) (nm_r e4 (nm_r e5 ⟨w, nm_r (e' := nI d) (by rw [e, ka_A6 hA hh, hd]) ⟨w, nm_r (e' := upd bd h 0) (by rw [e]) ⟨d + 1, ?_⟩⟩⟩))
  exact xa_sl_board hp hd6 d 0 (d + 1) (ka_up g h 0) h _ (by omega) (by omega) (ka_Au hA (by rw [ka_bs6 hh]; rfl)) (Or.inr hh) K
theorem xa_cp_board {post : SX → Prop} {p t A B : Nat} {g : Nat → Nat} (hp : p < 2) (ht : t = 6 + p ∨ t < 6) (hA : ka_A bd g A B) (hg : ∀ j, g j ≤ 12) (K : ∀ a', ka_A a' (ka_cp p g t) A B → post (fm, fx, fk, a', rc, lb, fl, le, lo, tr, li)) : wpX_capture__board post (fm, fx, fk, bd, rc, lb, fl, le, lo, tr, li) (nI p) (nI t) := by
  have N : ¬ (t < 6 ∧ t / 3 = p ∧ g t = 1 ∧ 0 < g (5 - t)) → post (fm, fx, fk, bd, rc, lb, fl, le, lo, tr, li) := fun z => K _ (by unfold ka_cp; rw [if_neg z]; exact hA)
  refine pk_le 6 t (fun h6 => N (by omega)) (fun h6 => ⟨by decide, ?_⟩)
  have b1 := hg t
  have b2 := hg (5 - t)
  have w : vp_in (nI t) 8 := vp_in_nI (by omega) (by omega)
  have c1 : (nI t).toNatClampNeg = t := nI_clamp (by omega)
  have w5 : vp_in (nI (5 - t)) 8 := vp_in_nI (by omega) (by omega)
  have c5 : (nI (5 - t)).toNatClampNeg = 5 - t := nI_clamp (by omega)
  have e6 : (6 : Int32) + nI p = nI (6 + p) := nI_add 6 p
  have w6 : vp_in (6 + nI p) 8 := by rw [e6]; exact vp_in_nI (by omega) (by omega)
  have c6 : (6 + nI p).toNatClampNeg = 6 + p := by rw [e6]; exact nI_clamp (by omega)
  have h5 := ka_A6 hA (j := 5 - t) (by omega)
  refine pk_eq (t / 3) p (fun q1 => nm_r (e' := nI (5 - t)) (pk_sub (a := 5) (by omega)) ⟨w, ?_⟩) (fun q1 => N (fun z => q1 z.2.1)) (hx := pk_div (d := 3) (by omega) (by omega) (by omega))
  refine pk_eq (g t) 1 (fun q2 => ⟨w5, ?_⟩) (fun q2 => N (fun z => q2 z.2.2.1)) (hx := by rw [c1]; exact ka_A6 hA (by omega))
  refine pk_le (g (5 - t)) 0 (fun q3 => N (fun z => by omega)) (fun q3 => ?_) (hx := by rw [c5]; exact h5)
  refine ⟨w6, w5, w6, nm_r (e' := upd bd (6 + p) (nI (g (6 + p) + (1 + g (5 - t)) + ka_bs A B (6 + p)))) ?_ ⟨w, nm_r (e' := upd (upd bd (6 + p) (nI (g (6 + p) + (1 + g (5 - t)) + ka_bs A B (6 + p)))) t 0) (by rw [c1]) ⟨w5, nm_e (K _ ?_)⟩⟩⟩
  · rw [c6, c5, h5, hA (6 + p) (by omega), show (1 : Int32) + nI (g (5 - t)) = nI (1 + g (5 - t)) from nI_add 1 _, nI_add]
    exact congrArg (fun z => upd bd (6 + p) (nI z)) (by omega)
  · rw [c5]
    unfold ka_cp
    rw [if_pos ⟨by omega, q1, q2, q3⟩]
    exact ka_Au (ka_Au (ka_Au hA rfl) (by rw [ka_bs6 (by omega)]; rfl)) (by rw [ka_bs6 (by omega)]; rfl)
theorem xa_bh_board {post : SX → Prop} {A B : Nat} {g : Nat → Nat} (hA : ka_A bd g A B) (K : ∀ a', ka_A a' (ka_bm g 6) A B → post (fm, fx, fk, a', rc, lb, fl, le, lo, tr, li)) : wpX_bringHome__board post (fm, fx, fk, bd, rc, lb, fl, le, lo, tr, li) := by
  have L : ∀ d i n a, i + d = 6 → d < n → ka_A a (ka_bm g i) A B → wX_bringHome__board_2 post fm fx fk n (nI i) a rc lb fl le lo tr li := by
    intro d
    induction d with
    | zero =>
      intro i n a hi hn ha
      obtain ⟨n, rfl⟩ : ∃ m, n = m + 1 := ⟨n - 1, by omega⟩
      obtain rfl : i = 6 := by omega
      rw [wX_bringHome__board_2]
      exact br_t (by decide) (K a ha)
    | succ d ih =>
      intro i n a hi hn ha
      obtain ⟨n, rfl⟩ : ∃ m, n = m + 1 := ⟨n - 1, by omega⟩
      rw [wX_bringHome__board_2]
      have w : vp_in (nI i) 8 := vp_in_nI (by omega) (by omega)
      have c1 : (nI i).toNatClampNeg = i := nI_clamp (by omega)
      have e6 : (6 : Int32) + nI i / 3 = nI (6 + i / 3) := by
        rw [show nI i / 3 = nI (i / 3) from pk_div (d := 3) (by omega) (by omega) (by omega)]
        exact nI_add 6 _
      have w6 : vp_in (6 + nI i / 3) 8 := by rw [e6]; exact vp_in_nI (by omega) (by omega)
      have c6 : (6 + nI i / 3).toNatClampNeg = 6 + i / 3 := by rw [e6]; exact nI_clamp (by omega)
      refine br_f (nI_ge (b := 6) (by omega) (by omega)) ⟨by decide, w6, w, w6, nm_r (e' := upd a (6 + i / 3) (nI (ka_bm g i (6 + i / 3) + ka_bm g i i + ka_bs A B (6 + i / 3)))) ?_ ⟨w, nm_r (e' := upd (upd a (6 + i / 3) (nI (ka_bm g i (6 + i / 3) + ka_bm g i i + ka_bs A B (6 + i / 3)))) i 0) (by rw [c1]) (nm_r (nI_1 i) (ih (i + 1) n _ (by omega) (by omega) ?_))⟩⟩
      · rw [c6, c1, ha (6 + i / 3) (by omega), ka_A6 ha (by omega), nI_add]
        exact congrArg (fun z => upd a (6 + i / 3) (nI z)) (by omega)
      · exact ka_Au (ka_Au ha rfl) (by rw [ka_bs6 (by omega)]; rfl)
  exact ⟨7, L 6 0 7 _ rfl (by omega) hA⟩
theorem xa_24_board {post : Int32 → SX → Prop} {c h A B : Nat} (hc : ka_ok c) (hh : h < 6) (hm : ka_mv c h = true) (K : ∀ a', ka_A a' (ka_st (ka_nx c h)) (A + ka_fin c h 6) (B + ka_fin c h 7) → post (nI (ka_pl (ka_nx c h))) (fm, fx, fk, a', rc, lb, fl, le, lo, tr, li))
    {a : Nat → Int32} (hA : ka_A a (ka_fin c h) A B) : wX_makeMove__board_24 post (nI (ka_pl c)) (nI (ka_s c h).2) fm fx fk a rc lb fl le lo tr li := by
  have K' := K a (ka_Afn hc hh hm hA)
  have p2 := ka_pl2 hc
  have t8 := ka_s8 hc hh
  rw [(ka_dn hc hh hm).2.2.2.2.2.2] at K'
  unfold ka_np at K'
  refine pk_eq (ka_s c h).2 (6 + ka_pl c) (fun e => ?_) (fun e => ?_) (hy := nI_add 6 _)
  · rw [if_pos e] at K'
    exact K'
  · rw [if_neg e] at K'
    rw [show (1 : Int32) - nI (ka_pl c) = nI (1 - ka_pl c) from pk_sub (a := 1) (by omega)]
    exact K'
theorem xa_mm_board {post : Int32 → SX → Prop} {c h A B : Nat} (hc : ka_ok c) (hh : h < 6) (hm : ka_mv c h = true) (hA : ka_A bd (ka_st c) A B) (K : ∀ a', ka_A a' (ka_st (ka_nx c h)) (A + ka_fin c h 6) (B + ka_fin c h 7) → post (nI (ka_pl (ka_nx c h))) (fm, fx, fk, a', rc, lb, fl, le, lo, tr, li)) :
    wpX_makeMove__board post (fm, fx, fk, bd, rc, lb, fl, le, lo, tr, li) (nI (ka_pl c)) (nI h) := by
  unfold wpX_makeMove__board
  dsimp only
  refine xa_sw_board (g := ka_st c) (d := ka_sd c h) (ka_pl2 hc) hh hA (if_pos hh) (ka_sdb hc hh) (fun a1 h1 => ?_)
  rw [show (ka_sw (ka_pl c) (ka_sd c h) (ka_up (ka_st c) h 0) h) = ka_s c h from rfl] at h1 ⊢
  dsimp only
  refine xa_cp_board (ka_pl2 hc) (ka_s8 hc hh) h1 (fun j => ka_sb hc hh j) (fun a2 h2 => ?_)
  dsimp only
  refine xa_io_board h2 (fun j hj => ka_cpb (ka_pl2 hc) (fun j => ka_sb hc hh j) hj) (fun o => br_f (by decide) (xa_bh_board h2 (fun a3 h3 => xa_24_board hc hh hm K ?_))) (fun o => br_t rfl (xa_24_board hc hh hm K ?_))
  · exact ka_Ae h3 (fun j hj => ka_bmh o hj) (fun j hj => rfl)
  · have e : ka_fin c h = ka_cp (ka_pl c) (ka_s c h).1 (ka_s c h).2 := if_neg o
    rw [e]
    exact h2
theorem xa_78_line {post : Int32 → SX → Prop} {J : _} {x3 x4 x5 x6 : Int32} {q i A B : Nat} {g : Nat → Nat} {a : Nat → Int32} (hA : ka_A a g A B) (hq : q < 8) (K : ∀ a', ka_A a' (ka_up g q (g q + 1)) A B → J (nI q) (nI (i + 1)) bd rc lb fl le lo tr a') : wX_sow__line_78 post J x3 x4 x5 x6 (nI q) (nI i) fm fx fk bd rc lb fl le lo tr a := by
  have w : vp_in (nI q) 8 := vp_in_nI hq (by omega)
  refine ⟨w, w, nm_e (nm_r (nI_1 i) (K _ ?_))⟩
  rw [nI_clamp (by omega)]
  refine ka_Au hA ?_
  rw [hA q hq, nI_1]
  exact congrArg nI (by omega)
theorem xa_sl_line {post : Int32 → SX → Prop} {p d A B : Nat} (hp : p < 2) (hd : d ≤ 6) : ∀ r i n g t a, i + r = d → r < n → ka_A a g A B → (t = 6 + p ∨ t < 6) →
    (∀ a', ka_A a' (ka_sw p r g t).1 A B → post (nI (ka_sw p r g t).2) (fm, fx, fk, bd, rc, lb, fl, le, lo, tr, a')) → wX_sow__line_36 post (nI (6 + p)) (nI (3 * p + 2)) (nI (3 * (1 - p))) (nI d) fm fx fk n (nI t) (nI i) bd rc lb fl le lo tr a := by
  intro r
  induction r with
  | zero =>
    intro i n g t a hi hn hA ht K
    obtain ⟨n, rfl⟩ : ∃ m, n = m + 1 := ⟨n - 1, by omega⟩
    rw [wX_sow__line_36]
    exact br_t (nI_le (by omega) (by omega)) (K a hA)
  | succ r ih =>
    intro i n g t a hi hn hA ht K
    obtain ⟨n, rfl⟩ : ∃ m, n = m + 1 := ⟨n - 1, by omega⟩
    rw [wX_sow__line_36]
    have S : ∀ q, ka_nt p t = q → wX_sow__line_78 post (wX_sow__line_36 post (nI (6 + p)) (nI (3 * p + 2)) (nI (3 * (1 - p))) (nI d) fm fx fk n) (nI (6 + p)) (nI (3 * p + 2)) (nI (3 * (1 - p))) (nI d) (nI q) (nI i) fm fx fk bd rc lb fl le lo tr a := by
      intro q hq
      have q8 := ka_nt8 (p := p) (t := t) hp
      exact xa_78_line hA (by omega) (fun a' h' => ih (i + 1) n _ q a' (by omega) (by omega) h' (by omega) (by subst hq; exact K))
    refine br_f (nI_ge (by omega) (by omega)) (pk_eq t (3 * p + 2) (fun e => S _ (if_pos e)) (fun e => pk_eq t (6 + p) (fun e' => S _ ((if_neg e).trans (if_pos e'))) (fun e' => ⟨by decide, nm_r (e' := nI ((t + 1) % 6)) ?_ (S _ ((if_neg e).trans (if_neg e')))⟩)))
    rw [nI_1]
    exact pk_rem (d := 6) (by omega) (by omega) (by omega)
theorem xa_sw_line {post : Int32 → SX → Prop} {p h d A B : Nat} {g : Nat → Nat} (hp : p < 2) (hh : h < 6) (hA : ka_A li g A B) (hd : g h = d) (hd6 : d ≤ 6)
    (K : ∀ a', ka_A a' (ka_sw p d (ka_up g h 0) h).1 A B → post (nI (ka_sw p d (ka_up g h 0) h).2) (fm, fx, fk, bd, rc, lb, fl, le, lo, tr, a')) : wpX_sow__line post (fm, fx, fk, bd, rc, lb, fl, le, lo, tr, li) (nI p) (nI h) := by
  have w : vp_in (nI h) 8 := vp_in_nI (by omega) (by omega)
  have e : (nI h).toNatClampNeg = h := nI_clamp (by omega)
  have e4 : (nI p * 3 + 3) - 1 = nI (3 * p + 2) := by
    rw [show nI p * 3 = nI (p * 3) from pk_mul p 3, show nI (p * 3) + 3 = nI (p * 3 + 3) from nI_add _ 3, show nI (p * 3 + 3) - 1 = nI (p * 3 + 3 - 1) from pk_sub (b := 1) (by omega)]
    exact congrArg nI (by omega)
  have e5 : (1 - nI p) * 3 = nI (3 * (1 - p)) := by
    rw [show (1 : Int32) - nI p = nI (1 - p) from pk_sub (a := 1) (by omega), show nI (1 - p) * 3 = nI ((1 - p) * 3) from pk_mul _ 3]
    exact congrArg nI (by omega)
  refine nm_r (e' := nI (6 + p)) (nI_add 6 p) (nm_r e4 (nm_r e5 ⟨w, nm_r (e' := nI d) (by rw [e, ka_A6 hA hh, hd]) ⟨w, nm_r (e' := upd li h 0) (by rw [e]) ⟨d + 1, ?_⟩⟩⟩))
  exact xa_sl_line hp hd6 d 0 (d + 1) (ka_up g h 0) h _ (by omega) (by omega) (ka_Au hA (by rw [ka_bs6 hh]; rfl)) (Or.inr hh) K
theorem xa_cp_line {post : SX → Prop} {p t A B : Nat} {g : Nat → Nat} (hp : p < 2) (ht : t = 6 + p ∨ t < 6) (hA : ka_A li g A B) (hg : ∀ j, g j ≤ 12) (K : ∀ a', ka_A a' (ka_cp p g t) A B → post (fm, fx, fk, bd, rc, lb, fl, le, lo, tr, a')) : wpX_capture__line post (fm, fx, fk, bd, rc, lb, fl, le, lo, tr, li) (nI p) (nI t) := by
  have N : ¬ (t < 6 ∧ t / 3 = p ∧ g t = 1 ∧ 0 < g (5 - t)) → post (fm, fx, fk, bd, rc, lb, fl, le, lo, tr, li) := fun z => K _ (by unfold ka_cp; rw [if_neg z]; exact hA)
  refine pk_le 6 t (fun h6 => N (by omega)) (fun h6 => ⟨by decide, ?_⟩)
  have b1 := hg t
  have b2 := hg (5 - t)
  have w : vp_in (nI t) 8 := vp_in_nI (by omega) (by omega)
  have c1 : (nI t).toNatClampNeg = t := nI_clamp (by omega)
  have w5 : vp_in (nI (5 - t)) 8 := vp_in_nI (by omega) (by omega)
  have c5 : (nI (5 - t)).toNatClampNeg = 5 - t := nI_clamp (by omega)
  have e6 : (6 : Int32) + nI p = nI (6 + p) := nI_add 6 p
  have w6 : vp_in (6 + nI p) 8 := by rw [e6]; exact vp_in_nI (by omega) (by omega)
  have c6 : (6 + nI p).toNatClampNeg = 6 + p := by rw [e6]; exact nI_clamp (by omega)
  have h5 := ka_A6 hA (j := 5 - t) (by omega)
  refine pk_eq (t / 3) p (fun q1 => nm_r (e' := nI (5 - t)) (pk_sub (a := 5) (by omega)) ⟨w, ?_⟩) (fun q1 => N (fun z => q1 z.2.1)) (hx := pk_div (d := 3) (by omega) (by omega) (by omega))
  refine pk_eq (g t) 1 (fun q2 => ⟨w5, ?_⟩) (fun q2 => N (fun z => q2 z.2.2.1)) (hx := by rw [c1]; exact ka_A6 hA (by omega))
  refine pk_le (g (5 - t)) 0 (fun q3 => N (fun z => by omega)) (fun q3 => ?_) (hx := by rw [c5]; exact h5)
  refine ⟨w6, w5, w6, nm_r (e' := upd li (6 + p) (nI (g (6 + p) + (1 + g (5 - t)) + ka_bs A B (6 + p)))) ?_ ⟨w, nm_r (e' := upd (upd li (6 + p) (nI (g (6 + p) + (1 + g (5 - t)) + ka_bs A B (6 + p)))) t 0) (by rw [c1]) ⟨w5, nm_e (K _ ?_)⟩⟩⟩
  · rw [c6, c5, h5, hA (6 + p) (by omega), show (1 : Int32) + nI (g (5 - t)) = nI (1 + g (5 - t)) from nI_add 1 _, nI_add]
    exact congrArg (fun z => upd li (6 + p) (nI z)) (by omega)
  · rw [c5]
    unfold ka_cp
    rw [if_pos ⟨by omega, q1, q2, q3⟩]
    exact ka_Au (ka_Au (ka_Au hA rfl) (by rw [ka_bs6 (by omega)]; rfl)) (by rw [ka_bs6 (by omega)]; rfl)
theorem xa_bh_line {post : SX → Prop} {A B : Nat} {g : Nat → Nat} (hA : ka_A li g A B) (K : ∀ a', ka_A a' (ka_bm g 6) A B → post (fm, fx, fk, bd, rc, lb, fl, le, lo, tr, a')) : wpX_bringHome__line post (fm, fx, fk, bd, rc, lb, fl, le, lo, tr, li) := by
  have L : ∀ d i n a, i + d = 6 → d < n → ka_A a (ka_bm g i) A B → wX_bringHome__line_2 post fm fx fk n (nI i) bd rc lb fl le lo tr a := by
    intro d
    induction d with
    | zero =>
      intro i n a hi hn ha
      obtain ⟨n, rfl⟩ : ∃ m, n = m + 1 := ⟨n - 1, by omega⟩
      obtain rfl : i = 6 := by omega
      rw [wX_bringHome__line_2]
      exact br_t (by decide) (K a ha)
    | succ d ih =>
      intro i n a hi hn ha
      obtain ⟨n, rfl⟩ : ∃ m, n = m + 1 := ⟨n - 1, by omega⟩
      rw [wX_bringHome__line_2]
      have w : vp_in (nI i) 8 := vp_in_nI (by omega) (by omega)
      have c1 : (nI i).toNatClampNeg = i := nI_clamp (by omega)
      have e6 : (6 : Int32) + nI i / 3 = nI (6 + i / 3) := by
        rw [show nI i / 3 = nI (i / 3) from pk_div (d := 3) (by omega) (by omega) (by omega)]
        exact nI_add 6 _
      have w6 : vp_in (6 + nI i / 3) 8 := by rw [e6]; exact vp_in_nI (by omega) (by omega)
      have c6 : (6 + nI i / 3).toNatClampNeg = 6 + i / 3 := by rw [e6]; exact nI_clamp (by omega)
      refine br_f (nI_ge (b := 6) (by omega) (by omega)) ⟨by decide, w6, w, w6, nm_r (e' := upd a (6 + i / 3) (nI (ka_bm g i (6 + i / 3) + ka_bm g i i + ka_bs A B (6 + i / 3)))) ?_ ⟨w, nm_r (e' := upd (upd a (6 + i / 3) (nI (ka_bm g i (6 + i / 3) + ka_bm g i i + ka_bs A B (6 + i / 3)))) i 0) (by rw [c1]) (nm_r (nI_1 i) (ih (i + 1) n _ (by omega) (by omega) ?_))⟩⟩
      · rw [c6, c1, ha (6 + i / 3) (by omega), ka_A6 ha (by omega), nI_add]
        exact congrArg (fun z => upd a (6 + i / 3) (nI z)) (by omega)
      · exact ka_Au (ka_Au ha rfl) (by rw [ka_bs6 (by omega)]; rfl)
  exact ⟨7, L 6 0 7 _ rfl (by omega) hA⟩
theorem xa_24_line {post : Int32 → SX → Prop} {c h A B : Nat} (hc : ka_ok c) (hh : h < 6) (hm : ka_mv c h = true) (K : ∀ a', ka_A a' (ka_st (ka_nx c h)) (A + ka_fin c h 6) (B + ka_fin c h 7) → post (nI (ka_pl (ka_nx c h))) (fm, fx, fk, bd, rc, lb, fl, le, lo, tr, a'))
    {a : Nat → Int32} (hA : ka_A a (ka_fin c h) A B) : wX_makeMove__line_24 post (nI (ka_pl c)) (nI (ka_s c h).2) fm fx fk bd rc lb fl le lo tr a := by
  have K' := K a (ka_Afn hc hh hm hA)
  have p2 := ka_pl2 hc
  have t8 := ka_s8 hc hh
  rw [(ka_dn hc hh hm).2.2.2.2.2.2] at K'
  unfold ka_np at K'
  refine pk_eq (ka_s c h).2 (6 + ka_pl c) (fun e => ?_) (fun e => ?_) (hy := nI_add 6 _)
  · rw [if_pos e] at K'
    exact K'
  · rw [if_neg e] at K'
    rw [show (1 : Int32) - nI (ka_pl c) = nI (1 - ka_pl c) from pk_sub (a := 1) (by omega)]
    exact K'
theorem xa_mm_line {post : Int32 → SX → Prop} {c h A B : Nat} (hc : ka_ok c) (hh : h < 6) (hm : ka_mv c h = true) (hA : ka_A li (ka_st c) A B) (K : ∀ a', ka_A a' (ka_st (ka_nx c h)) (A + ka_fin c h 6) (B + ka_fin c h 7) → post (nI (ka_pl (ka_nx c h))) (fm, fx, fk, bd, rc, lb, fl, le, lo, tr, a')) :
    wpX_makeMove__line post (fm, fx, fk, bd, rc, lb, fl, le, lo, tr, li) (nI (ka_pl c)) (nI h) := by
  unfold wpX_makeMove__line
  dsimp only
  refine xa_sw_line (g := ka_st c) (d := ka_sd c h) (ka_pl2 hc) hh hA (if_pos hh) (ka_sdb hc hh) (fun a1 h1 => ?_)
  rw [show (ka_sw (ka_pl c) (ka_sd c h) (ka_up (ka_st c) h 0) h) = ka_s c h from rfl] at h1 ⊢
  dsimp only
  refine xa_cp_line (ka_pl2 hc) (ka_s8 hc hh) h1 (fun j => ka_sb hc hh j) (fun a2 h2 => ?_)
  dsimp only
  refine xa_io_line h2 (fun j hj => ka_cpb (ka_pl2 hc) (fun j => ka_sb hc hh j) hj) (fun o => br_f (by decide) (xa_bh_line h2 (fun a3 h3 => xa_24_line hc hh hm K ?_))) (fun o => br_t rfl (xa_24_line hc hh hm K ?_))
  · exact ka_Ae h3 (fun j hj => ka_bmh o hj) (fun j hj => rfl)
  · have e : ka_fin c h = ka_cp (ka_pl c) (ka_s c h).1 (ka_s c h).2 := if_neg o
    rw [e]
    exact h2
end
