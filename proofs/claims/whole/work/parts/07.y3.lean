/-! ===== the reference: what is known, and how it comes to be known ===== -/
def ya_K (kn : Nat → Int32) : Prop := ∀ c, ka_ok c → kn (ka_Y c) = 0 ∨ kn (ka_Y c) = nI (ka_k c)
theorem ka_fo_0 {q : Nat} {w : Nat → Int} {m : Nat → Bool} : ∀ i, (∀ j, j < i → m j = false) → ka_fo q w m i = if q = 0 then -100 else 100
  | 0, _ => rfl
  | i + 1, h => by rw [ka_fo_f (h i (by omega))]; exact ka_fo_0 i (fun j hj => h j (by omega))
theorem ka_fo_b {q : Nat} {w : Nat → Int} {m : Nat → Bool} : ∀ i, (∀ j, j < i → m j = true → -100 < w j ∧ w j < 100) → -100 ≤ ka_fo q w m i ∧ ka_fo q w m i ≤ 100
  | i, h => by
    rcases ka_fo_m (q := q) i h with ⟨-, b⟩ | ⟨j, hj, x, y⟩
    · rw [b]
      split <;> omega
    · have := h j hj x
      rw [y]
      omega
section
variable {fb ff fs fk : Int32} {kn wy bo so ho : Nat → Int32}
theorem ya_um2 {post : Int32 → SY → Prop} {c : Nat} (hc : ka_ok c) (K1 : ∀ h gf gs rr, h < 6 → ka_mv c h = true → kn (ka_Y (ka_nx c h)) = 0 → post (nI h) (fb, ff, fs, fk, nI (ka_nx c h), gf, gs, kn, wy, bo, so, ho, rr))
    (K0 : ∀ fn gf gs rr, (∀ h, h < 6 → ka_mv c h = true → ¬ kn (ka_Y (ka_nx c h)) = 0) → post (-4000) (fb, ff, fs, fk, fn, gf, gs, kn, wy, bo, so, ho, rr)) :
    ∀ d i n fn gf gs rr, i + d = 6 → d < n → (∀ j, j < i → ka_mv c j = true → ¬ kn (ka_Y (ka_nx c j)) = 0) → wY_unknownMove_2 post (nI c) n (nI i) fb ff fs fk fn gf gs kn wy bo so ho rr := by
  intro d
  induction d with
  | zero =>
    intro i n fn gf gs rr hi hn hq
    obtain ⟨n, rfl⟩ : ∃ m, n = m + 1 := ⟨n - 1, by omega⟩
    obtain rfl : i = 6 := by omega
    rw [wY_unknownMove_2]
    exact br_t (by decide) (K0 _ _ _ _ hq)
  | succ d ih =>
    intro i n fn gf gs rr hi hn hq
    obtain ⟨n, rfl⟩ : ∃ m, n = m + 1 := ⟨n - 1, by omega⟩
    have h6 : i < 6 := by omega
    rw [wY_unknownMove_2]
    refine br_f (nI_ge (b := 6) h6 (by omega)) (ya_im (ka_okl hc) h6 (fun hm => br_f (by decide) (ya_mv hc h6 hm (fun rr' => ?_))) (fun hm => br_t rfl (nm_r (nI_1 i) (ih (i + 1) n _ _ _ _ (by omega) (by omega) (fun j hj hj' => ?_)))))
    · refine ya_nb (ka_okn hc h6 hm) (fun w e => ⟨w, ?_⟩)
      by_cases z : kn (ka_Y (ka_nx c i)) = 0
      · exact br_t (by rw [e]; exact z) (K1 i _ _ _ h6 hm z)
      · refine br_f (by rw [e]; exact z) (nm_r (nI_1 i) (ih (i + 1) n _ _ _ _ (by omega) (by omega) (fun j hj hj' => ?_)))
        by_cases y : j = i
        · rw [y]; exact z
        · exact hq j (by omega) hj'
    · by_cases y : j = i
      · rw [y, hm] at hj'; cases hj'
      · exact hq j (by omega) hj'
theorem ya_um {post : Int32 → SY → Prop} {c : Nat} {fn gf gs : Int32} {rr : Nat → Int32} (hc : ka_ok c) (K1 : ∀ h gf gs rr, h < 6 → ka_mv c h = true → kn (ka_Y (ka_nx c h)) = 0 → post (nI h) (fb, ff, fs, fk, nI (ka_nx c h), gf, gs, kn, wy, bo, so, ho, rr))
    (K0 : ∀ fn gf gs rr, (∀ h, h < 6 → ka_mv c h = true → ¬ kn (ka_Y (ka_nx c h)) = 0) → post (-4000) (fb, ff, fs, fk, fn, gf, gs, kn, wy, bo, so, ho, rr)) :
    wpY_unknownMove post (fb, ff, fs, fk, fn, gf, gs, kn, wy, bo, so, ho, rr) (nI c) :=
  ⟨7, ya_um2 hc K1 K0 6 0 7 _ _ _ _ rfl (by omega) (fun j hj => absurd hj (by omega))⟩
theorem ya_189 {post : SY → Prop} {c : Nat} {fn gf gs : Int32} {rr : Nat → Int32} (hc : ka_ok c) (K : post (fb, ff, fs, fk, fn, gf, gs, upd kn (ka_Y c) (nI (ka_k c)), wy, bo, so, ho, rr)) : wY_settle_189 post (nI c) (ka_I (ka_V false c)) (ka_I (ka_V true c)) fb ff fs fk fn gf gs kn wy bo so ho rr := by
  refine ya_nb hc (fun w e => ⟨w, nm_r (e' := upd kn (ka_Y c) (nI (ka_k c))) ?_ K⟩)
  have k := (ka_kb hc).2.2.1
  rw [e, show (64 : Int32) = ka_I 64 by decide, show (16 : Int32) = ka_I 16 by decide, ka_Ia, ka_Im, ka_Ia, ka_Ia, ka_In, k]
  exact congrArg (fun z => upd kn (ka_Y c) (ka_I z)) (by omega)
theorem ya_x7 {d a b : Nat} (hd : ka_ok d) : ((nI (ka_k d) / 64) - 16 + nI a) - nI b = ka_I ((a : Int) - (b : Int) + ka_V false d) := by
  obtain ⟨-, k2, -, k4, -⟩ := ka_kb hd
  rw [show nI (ka_k d) / 64 = nI (ka_k d / 64) from pk_div (d := 64) (by omega) (by omega) (by omega), ka_In, ka_In, ka_In, show (16 : Int32) = ka_I 16 by decide, ka_Is, ka_Ia, ka_Is, k4]
  exact congrArg ka_I (by omega)
theorem ya_x8 {d a b : Nat} (hd : ka_ok d) : ((nI (ka_k d) - nI (ka_k d) / 64 * 64) - 16 + nI a) - nI b = ka_I ((a : Int) - (b : Int) + ka_V true d) := by
  obtain ⟨-, k2, -, -, k5⟩ := ka_kb hd
  rw [show nI (ka_k d) - nI (ka_k d) / 64 * 64 = nI (ka_k d % 64) from pk_rem (d := 64) (by omega) (by omega) (by omega), ka_In, ka_In, ka_In, show (16 : Int32) = ka_I 16 by decide, ka_Is, ka_Ia, ka_Is, k5]
  exact congrArg ka_I (by omega)
section
variable {fn gf gs : Int32} {rr : Nat → Int32}
theorem ya_122z {post : SY → Prop} {J : _} {x1 x3 x4 x7 x8 z0 : Int32} {i : Nat} (K : J 1 x7 x8 (nI (i + 1)) fb ff fs fk fn gf gs kn wy bo so ho rr) : wY_settle_122 post J x1 0 x3 x4 (nI i) x7 x8 z0 fb ff fs fk fn gf gs kn wy bo so ho rr :=
  br_t rfl (br_t rfl (nm_r (nI_1 i) K))
theorem ya_139 {post : SY → Prop} {J : _} {x1 z0 : Int32} {i : Nat} {a b : Int} (ha : -1000 ≤ a ∧ a ≤ 1000) (hb : -1000 ≤ b ∧ b ≤ 1000) (K : J 1 z0 (ka_I (if b < a then b else a)) (nI (i + 1)) fb ff fs fk fn gf gs kn wy bo so ho rr) : wY_settle_139 post J x1 1 (ka_I a) (nI i) (ka_I b) z0 fb ff fs fk fn gf gs kn wy bo so ho rr := by
  refine br_f (by decide) (ek_if (ka_Ie (by omega) (by omega) (by omega) (by omega)) (fun z => nm_r (nI_1 i) ?_) (fun z => nm_r (nI_1 i) ?_))
  · rw [if_neg (by omega)] at K
    exact K
  · rw [if_pos (by omega)] at K
    exact K
theorem ya_st1 {post : SY → Prop} {J : _} {c i : Nat} {a b x y : Int} (ha : -1000 ≤ a ∧ a ≤ 1000) (hb : -1000 ≤ b ∧ b ≤ 1000) (hx : -1000 ≤ x ∧ x ≤ 1000) (hy : -1000 ≤ y ∧ y ≤ 1000) {p : Nat} (hp : p < 2)
    (K : J 1 (ka_I (if p = 0 then (if a < x then x else a) else (if x < a then x else a))) (ka_I (if y < b then y else b)) (nI (i + 1)) fb ff fs fk fn gf gs kn wy bo so ho rr) :
    ((nI p = 0 → (((ka_I x ≤ ka_I a → (wY_settle_122 post J (nI c) 1 (ka_I a) (ka_I b) (nI i) (ka_I x) (ka_I y) 0 fb ff fs fk fn gf gs kn wy bo so ho rr)) ∧ (¬ ka_I x ≤ ka_I a → (wY_settle_122 post J (nI c) 1 (ka_I a) (ka_I b) (nI i) (ka_I x) (ka_I y) 1 fb ff fs fk fn gf gs kn wy bo so ho rr))))) ∧ (¬ nI p = 0 → (((ka_I a ≤ ka_I x → (wY_settle_122 post J (nI c) 1 (ka_I a) (ka_I b) (nI i) (ka_I x) (ka_I y) 0 fb ff fs fk fn gf gs kn wy bo so ho rr)) ∧ (¬ ka_I a ≤ ka_I x → (wY_settle_122 post J (nI c) 1 (ka_I a) (ka_I b) (nI i) (ka_I x) (ka_I y) 1 fb ff fs fk fn gf gs kn wy bo so ho rr)))))) := by
  refine pk_eq p 0 (fun e => ek_if (ka_Ie (by omega) (by omega) (by omega) (by omega)) (fun z => ?_) (fun z => ?_)) (fun e => ek_if (ka_Ie (by omega) (by omega) (by omega) (by omega)) (fun z => ?_) (fun z => ?_))
  · rw [if_pos e, if_neg (by omega)] at K
    exact br_f (by decide) (br_t rfl (ya_139 hb hy K))
  · rw [if_pos e, if_pos (by omega)] at K
    exact br_f (by decide) (br_f (by decide) (ya_139 hb hy K))
  · rw [if_neg e, if_neg (by omega)] at K
    exact br_f (by decide) (br_t rfl (ya_139 hb hy K))
  · rw [if_neg e, if_pos (by omega)] at K
    exact br_f (by decide) (br_f (by decide) (ya_139 hb hy K))
end
theorem ya_se10 {post : SY → Prop} {c : Nat} (hc : ka_ok c) (hq : ∀ j, j < 6 → ka_mv c j = true → kn (ka_Y (ka_nx c j)) = nI (ka_k (ka_nx c j)))
    (K : ∀ fn gf gs rr, post (fb, ff, fs, fk, fn, gf, gs, upd kn (ka_Y c) (nI (ka_k c)), wy, bo, so, ho, rr)) :
    ∀ d i n x2 x3 x4 fn gf gs rr, i + d = 6 → d < n → ((x2 = 0 ∧ ∀ j, j < i → ka_mv c j = false) ∨ (x2 = 1 ∧ ka_over c = false ∧ x3 = ka_I (ka_fo (ka_pl c) (ka_w (ka_V false) c) (ka_mv c) i) ∧ x4 = ka_I (ka_fo 1 (ka_w (ka_V true) c) (ka_mv c) i))) →
    wY_settle_10 post (nI c) n x2 x3 x4 (nI i) fb ff fs fk fn gf gs kn wy bo so ho rr := by
  intro d
  induction d with
  | zero =>
    intro i n x2 x3 x4 fn gf gs rr hi hn hI
    obtain ⟨n, rfl⟩ : ∃ m, n = m + 1 := ⟨n - 1, by omega⟩
    obtain rfl : i = 6 := by omega
    rw [wY_settle_10]
    refine br_t (by decide) ?_
    have e1 := ka_Ve false hc
    have e2 := ka_Ve true hc
    rcases hI with ⟨rfl, h0⟩ | ⟨rfl, ho, rfl, rfl⟩
    · have o : ka_over c = true := by
        cases o : ka_over c with
        | true => rfl
        | false =>
          obtain ⟨j, hj, hm⟩ := ka_any hc o
          rw [h0 j hj] at hm
          cases hm
      rw [if_pos o] at e1 e2
      have k := ya_189 (kn := kn) hc (K fn gf gs rr)
      rw [e1, e2] at k
      refine br_t rfl (ya_s0 (ka_okl hc) (ya_s1 (ka_okl hc) (nm_r ?_ k)))
      rw [ka_In, ka_In, ka_Is]
    · rw [ho, if_neg (by decide)] at e1 e2
      have k := ya_189 (kn := kn) hc (K fn gf gs rr)
      rw [e1, e2] at k
      exact br_f (by decide) k
  | succ d ih =>
    intro i n x2 x3 x4 fn gf gs rr hi hn hI
    obtain ⟨n, rfl⟩ : ∃ m, n = m + 1 := ⟨n - 1, by omega⟩
    have h6 : i < 6 := by omega
    rw [wY_settle_10]
    refine br_f (nI_ge (b := 6) h6 (by omega)) (ya_im (ka_okl hc) h6 (fun hm => br_f (by decide) (ya_mv hc h6 hm (fun rr' => ?_))) (fun hm => br_t rfl (nm_r (nI_1 i) (ih (i + 1) n _ _ _ _ _ _ _ (by omega) (by omega) ?_))))
    · have hn := ka_okn hc h6 hm
      have p2 := ka_pl2 hc
      have wb := ka_wb false hc h6 hm
      have wt := ka_wb true hc h6 hm
      have ov := (ka_mvI.mp hm).2.2
      have x7 : ((nI (ka_k (ka_nx c i)) / 64) - 16 + nI (ka_fin c i 6)) - nI (ka_fin c i 7) = ka_I (ka_w (ka_V false) c i) := ya_x7 hn
      have x8 : ((nI (ka_k (ka_nx c i)) - nI (ka_k (ka_nx c i)) / 64 * 64) - 16 + nI (ka_fin c i 6)) - nI (ka_fin c i 7) = ka_I (ka_w (ka_V true) c i) := ya_x8 hn
      have f1 := ka_fo_t (q := ka_pl c) (w := ka_w (ka_V false) c) hm
      have f2 := ka_fo_t (q := 1) (w := ka_w (ka_V true) c) hm
      rw [if_neg (by decide)] at f2
      refine ya_nb hn (fun w e => ⟨w, nm_r (e' := nI (ka_k (ka_nx c i))) (by rw [e]; exact hq i h6 hm) ⟨by decide, nm_r x7 ⟨by decide, nm_r x8 (ya_pl (ka_okl hc) ?_)⟩⟩⟩)
      rcases hI with ⟨rfl, h0⟩ | ⟨rfl, ho, rfl, rfl⟩
      · rw [ka_fo_0 i h0] at f1 f2
        have g1 : ka_fo (ka_pl c) (ka_w (ka_V false) c) (ka_mv c) (i + 1) = ka_w (ka_V false) c i := by
          rw [f1]
          by_cases z : ka_pl c = 0
          · rw [if_pos z, if_pos z, if_pos (by omega)]
          · rw [if_neg z, if_neg z, if_pos (by omega)]
        have g2 : ka_fo 1 (ka_w (ka_V true) c) (ka_mv c) (i + 1) = ka_w (ka_V true) c i := by
          rw [f2, if_neg (show ¬ (1 : Nat) = 0 by decide), if_pos (by omega)]
        have J := fun fn gf gs rr => ih (i + 1) n 1 (ka_I (ka_w (ka_V false) c i)) (ka_I (ka_w (ka_V true) c i)) fn gf gs rr (by omega) (by omega) (Or.inr ⟨rfl, ov, by rw [g1], by rw [g2]⟩)
        exact br_c (fun _ => br_c (fun _ => ya_122z (J _ _ _ _)) (fun _ => ya_122z (J _ _ _ _))) (fun _ => br_c (fun _ => ya_122z (J _ _ _ _)) (fun _ => ya_122z (J _ _ _ _)))
      · have b1 := ka_fo_b (q := ka_pl c) (w := ka_w (ka_V false) c) (m := ka_mv c) i (fun j hj hj' => by have := ka_wb false hc (by omega) hj'; omega)
        have b2 := ka_fo_b (q := 1) (w := ka_w (ka_V true) c) (m := ka_mv c) i (fun j hj hj' => by have := ka_wb true hc (by omega) hj'; omega)
        exact ya_st1 (by omega) (by omega) (by omega) (by omega) p2 (ih (i + 1) n _ _ _ _ _ _ _ (by omega) (by omega) (Or.inr ⟨rfl, ov, by rw [f1], by rw [f2]⟩))
    · rcases hI with ⟨rfl, h0⟩ | ⟨rfl, ho, rfl, rfl⟩
      · refine Or.inl ⟨rfl, fun j hj => ?_⟩
        by_cases y : j = i
        · rw [y]; exact hm
        · exact h0 j (by omega)
      · exact Or.inr ⟨rfl, ho, by rw [ka_fo_f hm], by rw [ka_fo_f hm]⟩
theorem ya_se {post : SY → Prop} {c : Nat} {fn gf gs : Int32} {rr : Nat → Int32} (hc : ka_ok c) (hq : ∀ j, j < 6 → ka_mv c j = true → kn (ka_Y (ka_nx c j)) = nI (ka_k (ka_nx c j)))
    (K : ∀ fn gf gs rr, post (fb, ff, fs, fk, fn, gf, gs, upd kn (ka_Y c) (nI (ka_k c)), wy, bo, so, ho, rr)) : wpY_settle post (fb, ff, fs, fk, fn, gf, gs, kn, wy, bo, so, ho, rr) (nI c) :=
  ⟨7, ya_se10 hc hq K 6 0 7 0 0 0 _ _ _ _ rfl (by omega) (Or.inl ⟨rfl, fun j hj => absurd hj (by omega)⟩)⟩
end
/-! counting what is unknown -/
def ka_ct (a : Nat → Int32) : Nat → Nat
  | 0 => 0
  | k + 1 => ka_ct a k + (if a k = 0 then 1 else 0)
theorem ka_ct_e {a : Nat → Int32} {i : Nat} {x : Int32} : ∀ N, N ≤ i → ka_ct (upd a i x) N = ka_ct a N
  | 0, _ => rfl
  | N + 1, h => by
    simp only [ka_ct]
    rw [ka_ct_e N (by omega), pk_un (by omega)]
theorem ka_ct_l {a : Nat → Int32} {i : Nat} {x : Int32} (h0 : a i = 0) (hx : ¬ x = 0) : ∀ N, i < N → ka_ct (upd a i x) N + 1 = ka_ct a N
  | 0, h => by omega
  | N + 1, h => by
    simp only [ka_ct]
    by_cases e : i = N
    · subst e
      rw [ka_ct_e i (Nat.le_refl _), pk_us, if_neg hx, if_pos h0]
    · have := ka_ct_l h0 hx N (by omega)
      rw [pk_un (fun z => e z.symm)]
      omega
def ya_mu (D : Nat) (kn : Nat → Int32) : Nat := if D = 0 then 0 else ka_ct kn 1848 * 20 + (20 - D) + 1
def ya_P (b : Nat) (kn wy : Nat → Int32) (D : Nat) (cs : Nat → Nat) : Prop :=
  (∀ i, i < D → wy i = nI (cs i) ∧ ka_ok (cs i) ∧ i + ka_ln (cs i) ≤ 11) ∧ (∀ i j, i < j → j < D → ka_ln (cs j) < ka_ln (cs i)) ∧ (∀ i, 0 < i → i < D → kn (ka_Y (cs i)) = 0) ∧ (0 < D → cs 0 = b) ∧ (D = 0 → ¬ kn (ka_Y b) = 0)
theorem ka_knz {c : Nat} (hc : ka_ok c) : ¬ nI (ka_k c) = 0 := by
  have k := ka_kb hc
  exact nI_ne0 k.1 (by omega)
theorem ya_Ku {kn : Nat → Int32} {c : Nat} (hk : ya_K kn) (hc : ka_ok c) : ya_K (upd kn (ka_Y c) (nI (ka_k c))) := by
  intro d hd
  by_cases e : ka_Y d = ka_Y c
  · have := ka_Yj hd hc e
    subst this
    rw [pk_us]
    exact Or.inr rfl
  · rw [pk_un e]
    exact hk d hd
section
variable {fb ff fs fk : Int32} {bo so ho : Nat → Int32}
theorem ya_59 {post : Int32 → SY → Prop} {J : _} {b E c : Nat} {fn gf gs : Int32} {kn wy rr : Nat → Int32} (hc : ka_ok c) (hk : ya_K kn) (hq : kn (ka_Y c) = 0 → ∀ j, j < 6 → ka_mv c j = true → ¬ kn (ka_Y (ka_nx c j)) = 0)
    (K1 : kn (ka_Y c) = 0 → ∀ fn gf gs rr, J (nI E) fb ff fs fk fn gf gs (upd kn (ka_Y c) (nI (ka_k c))) wy bo so ho rr) (K0 : ¬ kn (ka_Y c) = 0 → J (nI E) fb ff fs fk fn gf gs kn wy bo so ho rr) :
    wY_solve_59 post J (nI b) (nI (E + 1)) (nI c) fb ff fs fk fn gf gs kn wy bo so ho rr := by
  refine ya_nb hc (fun w e => ⟨w, ?_⟩)
  by_cases z : kn (ka_Y c) = 0
  · refine br_t (by rw [e]; exact z) (ya_se hc (fun j hj hm => ?_) (fun fn gf gs rr => nm_r (pk_m1 E) (K1 z fn gf gs rr)))
    rcases hk _ (ka_okn hc hj hm) with y | y
    · exact absurd y (hq z j hj hm)
    · exact y
  · exact br_f (by rw [e]; exact z) (nm_r (pk_m1 E) (K0 z))
theorem ya_so9 {post : Int32 → SY → Prop} {b : Nat} (hb : ka_ok b) (K : ∀ fn gf gs kn wy rr, ya_K kn → post (nI (ka_k b)) (fb, ff, fs, fk, fn, gf, gs, kn, wy, bo, so, ho, rr)) :
    ∀ m n D fn gf gs kn wy rr, ya_mu D kn ≤ m → m < n → ya_K kn → (∃ cs, ya_P b kn wy D cs) → wY_solve_9 post (nI b) n (nI D) fb ff fs fk fn gf gs kn wy bo so ho rr := by
  intro m
  induction m with
  | zero =>
    intro n D fn gf gs kn wy rr hmu hn hk ⟨cs, hP⟩
    obtain ⟨n, rfl⟩ : ∃ m, n = m + 1 := ⟨n - 1, by omega⟩
    have hD : D = 0 := by
      unfold ya_mu at hmu
      split at hmu
      · assumption
      · omega
    subst hD
    rw [wY_solve_9]
    refine br_t (by decide) (ya_nb hb (fun w e => ⟨w, ?_⟩))
    rcases hk b hb with z | z
    · exact absurd z (hP.2.2.2.2 rfl)
    · rw [e, z]
      exact K _ _ _ _ _ _ hk
  | succ m ih =>
    intro n D fn gf gs kn wy rr hmu hn hk ⟨cs, hP⟩
    obtain ⟨n, rfl⟩ : ∃ m, n = m + 1 := ⟨n - 1, by omega⟩
    rcases (by cases D with | zero => exact Or.inl rfl | succ E => exact Or.inr ⟨E, rfl⟩ : D = 0 ∨ ∃ E, D = E + 1) with rfl | ⟨E, rfl⟩
    · exact (ih (n + 1) 0 fn gf gs kn wy rr (Nat.zero_le _) (by omega) hk ⟨cs, hP⟩)
    · obtain ⟨p1, p2, p3, p4, p5⟩ := hP
      obtain ⟨q1, q2, q3⟩ := p1 E (by omega)
      have mu : ka_ct kn 1848 * 20 + (20 - (E + 1)) + 1 ≤ m + 1 := by
        unfold ya_mu at hmu
        rw [if_neg (by omega)] at hmu
        exact hmu
      have yb := ka_Yb q2
      have w1 : vp_in (nI (E + 1) - 1) 200 := by rw [nI_pred]; exact vp_in_nI (by omega) (by omega)
      have c1 : (nI (E + 1) - 1).toNatClampNeg = E := by rw [nI_pred]; exact nI_clamp (by omega)
      rw [wY_solve_9]
      refine br_f (nI_nle (by omega) (by omega)) ⟨w1, nm_r (e' := nI (cs E)) (by rw [c1]; exact q1) (ya_nb q2 (fun w e => ⟨w, ?_⟩))⟩
      have F : ∀ fn gf gs rr, (kn (ka_Y (cs E)) = 0 → ∀ j, j < 6 → ka_mv (cs E) j = true → ¬ kn (ka_Y (ka_nx (cs E) j)) = 0) → wY_solve_59 post (wY_solve_9 post (nI b) n) (nI b) (nI (E + 1)) (nI (cs E)) fb ff fs fk fn gf gs kn wy bo so ho rr := by
        intro fn gf gs rr hq
        refine ya_59 q2 hk hq (fun z fn gf gs rr => ?_) (fun z => ?_)
        · have ct := ka_ct_l (x := nI (ka_k (cs E))) z (ka_knz q2) 1848 yb
          refine ih n E fn gf gs _ wy rr ?_ (by omega) (ya_Ku hk q2) ⟨cs, fun i hi => p1 i (by omega), fun i j hi hj => p2 i j hi (by omega), fun i h0 hi => ?_, fun h0 => p4 (by omega), fun h0 => ?_⟩
          · unfold ya_mu
            split <;> omega
          · have l := p2 i E hi (by omega)
            rw [pk_un (fun y => by
              have := ka_Yj (p1 i (by omega)).2.1 q2 y
              rw [this] at l
              omega)]
            exact p3 i h0 (by omega)
          · subst h0
            rw [← p4 (by omega), pk_us]
            exact ka_knz q2
        · have E0 : E = 0 := by
            rcases (by omega : E = 0 ∨ 0 < E) with y | y
            · exact y
            · exact absurd (p3 E y (by omega)) z
          subst E0
          refine ih n 0 fn gf gs kn wy rr (Nat.zero_le _) (by omega) hk ⟨cs, fun i hi => absurd hi (by omega), fun i j hi hj => absurd hj (by omega), fun i h0 hi => absurd hi (by omega), fun h0 => absurd h0 (by omega), fun _ => ?_⟩
          rw [← p4 (by omega)]
          exact z
      by_cases z : kn (ka_Y (cs E)) = 0
      · refine br_t (by rw [e]; exact z) (ya_um q2 (fun h gf gs rr h6 hm hz => ?_) (fun fn gf gs rr hq => br_t (by decide) (F fn gf gs rr (fun _ => hq))))
        have st := ka_step q2 h6 hm
        have ok := ka_okn q2 h6 hm
        refine br_f (nI_pos (by omega)) ⟨vp_in_nI (by omega) (by omega), nm_r (e' := upd wy (E + 1) (nI (ka_nx (cs E) h))) (by rw [nI_clamp (by omega)]) (nm_r (nI_1 (E + 1)) ?_)⟩
        refine ih n (E + 2) _ _ _ kn _ _ ?_ (by omega) hk ⟨fun i => if i = E + 1 then ka_nx (cs E) h else cs i, fun i hi => ?_, fun i j hi hj => ?_, fun i h0 hi => ?_, fun _ => ?_, fun h0 => absurd h0 (by omega)⟩
        · unfold ya_mu
          rw [if_neg (by omega)]
          omega
        · by_cases y : i = E + 1
          · simp only [y, if_true]
            exact ⟨pk_us, ok, by omega⟩
          · simp only [y, if_false]
            rw [pk_un y]
            exact p1 i (by omega)
        · by_cases y : j = E + 1
          · have y' : ¬ i = E + 1 := by omega
            simp only [y, y', if_true, if_false]
            rcases (by omega : i = E ∨ i < E) with x | x
            · rw [x]; omega
            · have := p2 i E x (by omega)
              omega
          · have y' : ¬ i = E + 1 := by omega
            simp only [y, y', if_false]
            exact p2 i j hi (by omega)
        · by_cases y : i = E + 1
          · simp only [y, if_true]
            exact hz
          · simp only [y, if_false]
            exact p3 i h0 (by omega)
        · have y : ¬ 0 = E + 1 := by omega
          simp only [y, if_false]
          exact p4 (by omega)
      · exact br_f (by rw [e]; exact z) (F _ _ _ _ (fun y => absurd y z))
theorem ya_so {post : Int32 → SY → Prop} {b : Nat} {fn gf gs : Int32} {kn wy rr : Nat → Int32} (hb : ka_ok b) (hk : ya_K kn) (K : ∀ fn gf gs kn wy rr, ya_K kn → post (nI (ka_k b)) (fb, ff, fs, fk, fn, gf, gs, kn, wy, bo, so, ho, rr)) :
    wpY_solve post (fb, ff, fs, fk, fn, gf, gs, kn, wy, bo, so, ho, rr) (nI b) := by
  refine nm_e ⟨ya_mu 1 kn + 1, ya_so9 hb K (ya_mu 1 kn) _ 1 _ _ _ _ _ _ (Nat.le_refl _) (by omega) hk ⟨fun _ => b, fun i hi => ?_, fun i j hi hj => absurd hj (by omega), fun i h0 hi => absurd hi (by omega), fun _ => rfl, fun h0 => absurd h0 (by omega)⟩⟩
  obtain rfl : i = 0 := by omega
  have := (ka_X924 hb).2
  exact ⟨pk_us, hb, by show 0 + ka_ln b ≤ 11; omega⟩
theorem ya_vo {post : Int32 → SY → Prop} {b : Nat} {fn gf gs : Int32} {kn wy rr : Nat → Int32} (hb : ka_ok b) (hk : ya_K kn) (K : ∀ fn gf gs kn wy rr, ya_K kn → post (ka_I (ka_V false b)) (fb, ff, fs, fk, fn, gf, gs, kn, wy, bo, so, ho, rr)) :
    wpY_valueOf post (fb, ff, fs, fk, fn, gf, gs, kn, wy, bo, so, ho, rr) (nI b) := by
  obtain ⟨-, k2, -, k4, -⟩ := ka_kb hb
  unfold wpY_valueOf
  dsimp only
  refine ya_so hb hk (fun fn gf gs kn wy rr hk' => ⟨by decide, ?_⟩)
  rw [show nI (ka_k b) / 64 = nI (ka_k b / 64) from pk_div (d := 64) (by omega) (by omega) (by omega), ka_In, show (16 : Int32) = ka_I 16 by decide, ka_Is, k4, show ka_V false b + 16 - 16 = ka_V false b by omega]
  exact K _ _ _ _ _ _ hk'
theorem ya_am {post : Int32 → SY → Prop} {c h : Nat} {fn gf gs : Int32} {kn wy rr : Nat → Int32} (hc : ka_ok c) (hh : h < 6) (hm : ka_mv c h = true) (hk : ya_K kn) (K : ∀ fn gf gs kn wy rr, ya_K kn → post (ka_I (ka_w (ka_V false) c h)) (fb, ff, fs, fk, fn, gf, gs, kn, wy, bo, so, ho, rr)) :
    wpY_afterMove post (fb, ff, fs, fk, fn, gf, gs, kn, wy, bo, so, ho, rr) (nI c) (nI h) := by
  unfold wpY_afterMove
  dsimp only
  refine ya_mv hc hh hm (fun rr' => nm_r (e' := ka_I ((ka_fin c h 6 : Int) - (ka_fin c h 7 : Int))) (by dsimp only; rw [ka_In, ka_In, ka_Is]) (ya_vo (ka_okn hc hh hm) hk (fun fn gf gs kn wy rr hk' => ?_)))
  rw [ka_Ia]
  exact K _ _ _ _ _ _ hk'
theorem ya_bo8 {post : Int32 → SY → Prop} {c : Nat} (hc : ka_ok c) (K : ∀ fn gf gs kn wy rr, ya_K kn → post (if ka_b c < 6 then nI (ka_b c) else -4000) (fb, ff, fs, fk, fn, gf, gs, kn, wy, bo, so, ho, rr)) :
    ∀ d i n fn gf gs kn wy rr, i + d = 6 → d < n → ka_bh c d i = ka_b c → ya_K kn → wY_bestOf_8 post (nI c) (ka_I (ka_V false c)) n (nI i) fb ff fs fk fn gf gs kn wy bo so ho rr := by
  intro d
  induction d with
  | zero =>
    intro i n fn gf gs kn wy rr hi hn hq hk
    obtain ⟨n, rfl⟩ : ∃ m, n = m + 1 := ⟨n - 1, by omega⟩
    obtain rfl : i = 6 := by omega
    rw [wY_bestOf_8]
    have K' := K fn gf gs kn wy rr hk
    have q : ka_b c = 6 := hq.symm
    rw [q, if_neg (by omega)] at K'
    exact br_t (by decide) K'
  | succ d ih =>
    intro i n fn gf gs kn wy rr hi hn hq hk
    obtain ⟨n, rfl⟩ : ∃ m, n = m + 1 := ⟨n - 1, by omega⟩
    have h6 : i < 6 := by omega
    simp only [ka_bh] at hq
    rw [wY_bestOf_8]
    refine br_f (nI_ge (b := 6) h6 (by omega)) (ya_im (ka_okl hc) h6 (fun hm => br_f (by decide) (ya_am hc h6 hm hk (fun fn gf gs kn wy rr hk' => ?_))) (fun hm => br_t rfl (nm_r (nI_1 i) (ih (i + 1) n _ _ _ _ _ _ (by omega) (by omega) ?_ hk))))
    · have a := ka_Vb false hc
      have b := ka_wb false hc h6 hm
      refine ek_if (ka_Iq (by omega) (by omega) (by omega) (by omega)) (fun z => ?_) (fun z => nm_r (nI_1 i) (ih (i + 1) n _ _ _ _ _ _ (by omega) (by omega) ?_ hk'))
      · rw [if_pos ⟨hm, z⟩] at hq
        have K' := K fn gf gs kn wy rr hk'
        rw [← hq, if_pos h6] at K'
        exact K'
      · rw [if_neg (fun y => z y.2)] at hq
        exact hq
    · rw [if_neg (fun y => by rw [hm] at y; cases y.1)] at hq
      exact hq
theorem ya_bo {post : Int32 → SY → Prop} {c : Nat} {fn gf gs : Int32} {kn wy rr : Nat → Int32} (hc : ka_ok c) (hk : ya_K kn) (K : ∀ fn gf gs kn wy rr, ya_K kn → post (if ka_b c < 6 then nI (ka_b c) else -4000) (fb, ff, fs, fk, fn, gf, gs, kn, wy, bo, so, ho, rr)) :
    wpY_bestOf post (fb, ff, fs, fk, fn, gf, gs, kn, wy, bo, so, ho, rr) (nI c) := by
  unfold wpY_bestOf
  dsimp only
  exact ya_vo hc hk (fun fn gf gs kn wy rr hk' => ⟨7, ya_bo8 hc K 6 0 7 _ _ _ _ _ _ rfl (by omega) rfl hk'⟩)
theorem ya_le7 {post : Int32 → SY → Prop} : ∀ m n c i fn gf gs kn wy rr, m < n → ka_ok c → ka_ln c < m → i + m ≤ 900 → ya_K kn →
    (∀ fn gf gs kn wy rr, ya_K kn → post (nI (i + ka_le m c)) (fb, ff, fs, fk, fn, gf, gs, kn, wy, bo, so, ho, rr)) → wY_length_7 post n (nI c) (nI i) fb ff fs fk fn gf gs kn wy bo so ho rr := by
  intro m
  induction m with
  | zero => intro n c i fn gf gs kn wy rr hn hc hl; omega
  | succ m ih =>
    intro n c i fn gf gs kn wy rr hn hc hl hi hk K
    obtain ⟨n, rfl⟩ : ∃ m, n = m + 1 := ⟨n - 1, by omega⟩
    rw [wY_length_7]
    refine ya_io (ka_okl hc) (fun o => ?_) (fun o => ?_)
    · have K' := K fn gf gs kn wy rr hk
      have e : ka_le (m + 1) c = 0 := by simp only [ka_le, o, if_true]
      rw [e] at K'
      exact br_f (by decide) K'
    · obtain ⟨b6, bm⟩ := ka_bN hc o
      have st := ka_step hc b6 bm
      have e : ka_le (m + 1) c = ka_le m (ka_nx c (ka_b c)) + 1 := by
        simp only [ka_le, o]
        rfl
      refine br_t rfl (br_f (nI_ge (b := 1000) (by omega) (by omega)) (ya_bo hc hk (fun fn gf gs kn wy rr hk' => ?_)))
      rw [if_pos b6]
      refine ya_mv hc b6 bm (fun rr' => nm_r (nI_1 i) (ih n _ (i + 1) _ _ _ _ _ _ (by omega) (ka_okn hc b6 bm) (by omega) (by omega) hk' (fun fn gf gs kn wy rr hk2 => ?_)))
      have K' := K fn gf gs kn wy rr hk2
      rw [e] at K'
      rw [show i + 1 + ka_le m (ka_nx c (ka_b c)) = i + (ka_le m (ka_nx c (ka_b c)) + 1) by omega]
      exact K'
end
