/-! ===== the reference: a whole move, the number of a board ===== -/
theorem ka_okl {c : Nat} (h : ka_ok c) : c < 2 ^ 31 := by
  have := h.1
  omega
theorem ka_fcp (c h : Nat) : ka_hm (ka_cp (ka_pl c) (ka_s c h).1 (ka_s c h).2) = ka_fin c h := rfl
theorem ka_nxc {c h : Nat} (hc : ka_ok c) (hh : h < 6) : ka_ac (ka_fin c h) 6 + 262144 * (if (if (ka_s c h).2 < 6 then (ka_s c h).2 else 6) = 6 then ka_pl c else 1 - ka_pl c) = ka_nx c h := by
  have e : (if (if (ka_s c h).2 < 6 then (ka_s c h).2 else 6) = 6 then ka_pl c else 1 - ka_pl c) = ka_np c h := by
    unfold ka_np
    rcases ka_s8 hc hh with z | z
    · rw [if_neg (by omega : ¬ (ka_s c h).2 < 6), if_pos rfl, if_pos z]
    · rw [if_pos z, if_neg (by omega), if_neg (by omega)]
  rw [e]
  unfold ka_nx
  simp only [ka_ac, Nat.reducePow, Nat.pow_zero, Nat.pow_one]
  omega
section
variable {fb ff fs fk fn gf gs : Int32} {kn wy bo so ho rr : Nat → Int32}
theorem ya_cap {post : SY → Prop} {c h : Nat} (hc : ka_ok c) (hh : h < 6) (hm : ka_mv c h = true) (K : ∀ rr', post (fb, ff, fs, fk, nI (ka_nx c h), nI (ka_fin c h 6), nI (ka_fin c h 7), kn, wy, bo, so, ho, rr'))
    {g : Nat → Nat} (eg : ka_cp (ka_pl c) (ka_s c h).1 (ka_s c h).2 = g) {rr : Nat → Int32} {gf gs : Int32} (hS : ya_S g rr gf gs) :
    wY_move_126 post (nI (ka_pl c)) (nI (if (ka_s c h).2 < 6 then (ka_s c h).2 else 6)) fb ff fs fk fn gf gs kn wy bo so ho rr := by
  subst eg
  have s := (ka_step hc hh hm).1
  have s6 := hc.2
  refine ya_126 (ka_pl2 hc) (by split <;> omega) (fun j hj => ka_cpb (ka_pl2 hc) (fun j => ka_sb hc hh j) hj) (fun j hj => ?_) hS (fun rr' => ?_)
  · rw [ka_fcp]
    exact ka_6 (P := fun j => ka_fin c h j < 8) (by omega) (by omega) (by omega) (by omega) (by omega) (by omega) hj
  · rw [ka_fcp, ka_nxc hc hh]
    exact K rr'
theorem ya_19 {post : SY → Prop} {c h : Nat} (hc : ka_ok c) (hh : h < 6) (hm : ka_mv c h = true) (K : ∀ rr', post (fb, ff, fs, fk, nI (ka_nx c h), nI (ka_fin c h 6), nI (ka_fin c h 7), kn, wy, bo, so, ho, rr')) :
    ∀ d i n rr, i + d = 6 → d < n → (∀ j, j < i → rr j = nI (ka_sd c j)) → wY_move_19 post (nI c) (nI h) (nI (ka_pl c)) fb ff fs fk fn 0 0 n (nI i) kn wy bo so ho rr := by
  intro d
  induction d with
  | zero =>
    intro i n rr hi hn hr
    obtain ⟨n, rfl⟩ : ∃ m, n = m + 1 := ⟨n - 1, by omega⟩
    obtain rfl : i = 6 := by omega
    rw [wY_move_19]
    refine br_t (by decide) ?_
    refine ya_sw (g := ka_st c) (d := ka_sd c h) (ka_pl2 hc) hh ⟨fun j hj => ?_, rfl, rfl⟩ (if_pos hh) (ka_sdb hc hh) (fun rr' gf' gs' hS => ?_)
    · rw [hr j hj]
      exact congrArg nI (if_pos hj).symm
    · have hS : ya_S (ka_s c h).1 rr' gf' gs' := hS
      have p2 := ka_pl2 hc
      have C := @ya_cap fb ff fs fk fn kn wy bo so ho post c h hc hh hm K
      rw [show (ka_sw (ka_pl c) (ka_sd c h) (ka_up (ka_st c) h 0) h) = ka_s c h from rfl]
      dsimp only
      rcases ka_s8 hc hh with z | z
      · have C' := C (g := (ka_s c h).1) (if_neg (by omega)) hS
        rw [if_neg (by omega : ¬ (ka_s c h).2 < 6)] at C' ⊢
        exact br_t (by decide) C'
      · rw [if_pos z] at C ⊢
        have b1 := ka_sb hc hh (ka_s c h).2
        have b2 := ka_sb hc hh (5 - (ka_s c h).2)
        have w : vp_in (nI (ka_s c h).2) 6 := vp_in_nI z (by omega)
        have e5 : (5 : Int32) - nI (ka_s c h).2 = nI (5 - (ka_s c h).2) := pk_sub (a := 5) (by omega)
        have w5 : vp_in (5 - nI (ka_s c h).2) 6 := by rw [e5]; exact vp_in_nI (by omega) (by omega)
        have c1 : (nI (ka_s c h).2).toNatClampNeg = (ka_s c h).2 := nI_clamp (by omega)
        have c5 : (5 - nI (ka_s c h).2).toNatClampNeg = 5 - (ka_s c h).2 := by rw [e5]; exact nI_clamp (by omega)
        refine br_f (nI_ge (b := 6) z (by omega)) ⟨by decide, ?_⟩
        refine pk_eq ((ka_s c h).2 / 3) (ka_pl c) (fun q1 => ⟨w, ?_⟩) (fun q1 => C (g := (ka_s c h).1) (if_neg (fun y => q1 y.2.1)) hS) (hx := pk_div (d := 3) (by omega) (by omega) (by omega))
        refine pk_eq ((ka_s c h).1 (ka_s c h).2) 1 (fun q2 => ⟨w5, ?_⟩) (fun q2 => C (g := (ka_s c h).1) (if_neg (fun y => q2 y.2.2.1)) hS) (hx := by rw [c1]; exact hS.1 _ z)
        refine pk_le ((ka_s c h).1 (5 - (ka_s c h).2)) 0 (fun q3 => C (g := (ka_s c h).1) (if_neg (fun y => by omega)) hS) (fun q3 => ⟨w5, ?_⟩) (hx := by rw [c5]; exact hS.1 _ (by omega))
        rw [c5, hS.1 (5 - (ka_s c h).2) (by omega), show (1 : Int32) + nI ((ka_s c h).1 (5 - (ka_s c h).2)) = nI (1 + (ka_s c h).1 (5 - (ka_s c h).2)) from nI_add 1 _]
        refine ya_gn p2 hS (fun gf2 gs2 h2 => ⟨w, nm_r (e' := upd rr' (ka_s c h).2 0) (by rw [c1]) ⟨w5, nm_r (e' := upd (upd rr' (ka_s c h).2 0) (5 - (ka_s c h).2) 0) rfl ?_⟩⟩)
        exact C (if_pos ⟨z, q1, q2, q3⟩) (ya_Su (ya_Su h2 z rfl) (by omega) rfl)
  | succ d ih =>
    intro i n rr hi hn hr
    obtain ⟨n, rfl⟩ : ∃ m, n = m + 1 := ⟨n - 1, by omega⟩
    rw [wY_move_19]
    have w : vp_in (nI i) 6 := vp_in_nI (by omega) (by omega)
    have e : (nI i).toNatClampNeg = i := nI_clamp (by omega)
    refine br_f (nI_ge (b := 6) (by omega) (by omega)) (ya_si (ka_okl hc) (by omega) ⟨w, nm_r (e' := upd rr i (nI (ka_sd c i))) (by rw [e]) (nm_r (nI_1 i) (ih (i + 1) n _ (by omega) (by omega) (fun j hj => ?_)))⟩)
    by_cases z : j = i
    · rw [z, pk_us]
    · rw [pk_un z]; exact hr j (by omega)
theorem ya_mv {post : SY → Prop} {c h : Nat} (hc : ka_ok c) (hh : h < 6) (hm : ka_mv c h = true) (K : ∀ rr', post (fb, ff, fs, fk, nI (ka_nx c h), nI (ka_fin c h 6), nI (ka_fin c h 7), kn, wy, bo, so, ho, rr')) :
    wpY_move post (fb, ff, fs, fk, fn, gf, gs, kn, wy, bo, so, ho, rr) (nI c) (nI h) := by
  unfold wpY_move
  dsimp only
  exact ya_pl (ka_okl hc) ⟨7, ya_19 hc hh hm K 6 0 7 rr rfl (by omega) (fun j hj => absurd hj (by omega))⟩
end
/-! the number -/
theorem ka_xs6 {c : Nat} (hc : ka_ok c) {i : Nat} (hi : i < 6) : ka_xs c i + ka_sd c i ≤ 6 := by
  have := hc.2
  simp only [ka_s0, ka_s1] at this
  exact ka_6 (P := fun i => ka_xs c i + ka_sd c i ≤ 6) (by simp only [ka_xs]; omega) (by simp only [ka_xs]; omega) (by simp only [ka_xs]; omega) (by simp only [ka_xs]; omega) (by simp only [ka_xs]; omega) (by simp only [ka_xs]; omega) hi
theorem ya_ro5 {post : Int32 → Prop} {fb ff fs fk fn gf gs : Int32} {kn wy bo so ho rr : Nat → Int32} {m s : Nat} (hm : m < 6) (hs : s < 7) (H : post (nI (ka_ro s m))) : ∀ d i n, i + d = m → d < n → wY_rowsOf_5 post (nI m) (nI s) fb ff fs fk fn gf gs kn wy bo so ho rr n (nI (ka_ro s i)) (nI (i + 1)) := by
  intro d
  induction d with
  | zero =>
    intro i n hi hn
    obtain ⟨n, rfl⟩ : ∃ m, n = m + 1 := ⟨n - 1, by omega⟩
    obtain rfl : i = m := by omega
    rw [wY_rowsOf_5]
    exact br_t (nI_lt (by omega) (by omega)) H
  | succ d ih =>
    intro i n hi hn
    obtain ⟨n, rfl⟩ : ∃ m, n = m + 1 := ⟨n - 1, by omega⟩
    rw [wY_rowsOf_5]
    have b := ka_rob s hs i (by omega)
    have b2 : ka_ro s i * (s + (i + 1)) ≤ 462 * 13 := Nat.mul_le_mul b (by omega)
    refine br_f (nI_nlt (by omega) (by omega)) ⟨nI_ne0 (by omega) (by omega), nm_r (e' := nI (ka_ro s (i + 1))) ?_ (nm_r (nI_1 (i + 1)) (ih (i + 1) n (by omega) (by omega)))⟩
    rw [nI_add, pk_mul, pk_div (by omega) (by omega) (by omega)]
    rfl
theorem ya_ro {post : Int32 → Prop} {v : SY} {m s : Nat} (hm : m < 6) (hs : s < 7) (H : post (nI (ka_ro s m))) : wpY_rowsOf post v (nI m) (nI s) := by
  obtain ⟨fb, ff, fs, fk, fn, gf, gs, kn, wy, bo, so, ho, rr⟩ := v
  exact ⟨m + 1, ya_ro5 hm hs H m 0 (m + 1) (by omega) (by omega)⟩
theorem ya_17 {post : Int32 → Prop} {J : _} {fb ff fs fk fn gf gs : Int32} {kn wy bo so ho rr : Nat → Int32} {c h b : Nat} (hc : ka_ok c) (hh : h < 5) (K : J (nI (ka_yi c h b (ka_sd c h))) (nI (6 - ka_xs c (h + 1))) (nI (h + 1))) :
    ∀ d i n, i + d = ka_sd c h → d < n → wY_numberOf_17 post J (nI c) (nI (6 - ka_xs c h)) (nI h) fb ff fs fk fn gf gs kn wy bo so ho rr n (nI (ka_yi c h b i)) (nI i) := by
  have x6 := ka_xs6 hc (i := h) (by omega)
  intro d
  induction d with
  | zero =>
    intro i n hi hn
    obtain ⟨n, rfl⟩ : ∃ m, n = m + 1 := ⟨n - 1, by omega⟩
    obtain rfl : i = ka_sd c h := by omega
    rw [wY_numberOf_17]
    refine ya_si (ka_okl hc) (by omega) (br_t (nI_le (by omega) (by omega)) (ya_si (ka_okl hc) (by omega) (nm_r (e' := nI (6 - ka_xs c (h + 1))) ?_ (nm_r (nI_1 h) K))))
    rw [pk_sub (by omega)]
    exact congrArg nI (by simp only [ka_xs]; omega)
  | succ d ih =>
    intro i n hi hn
    obtain ⟨n, rfl⟩ : ∃ m, n = m + 1 := ⟨n - 1, by omega⟩
    rw [wY_numberOf_17]
    refine ya_si (ka_okl hc) (by omega) (br_f (nI_ge (by omega) (by omega)) ?_)
    rw [show (5 : Int32) - nI h = nI (5 - h) from pk_sub (a := 5) (by omega), pk_sub (by omega)]
    refine ya_ro (by omega) (by omega) (nm_r (e' := nI (ka_yi c h b (i + 1))) (by rw [nI_add]; rfl) (nm_r (nI_1 i) (ih (i + 1) n (by omega) (by omega))))
theorem ya_8 {post : Int32 → Prop} {fb ff fs fk fn gf gs : Int32} {kn wy bo so ho rr : Nat → Int32} {c : Nat} (hc : ka_ok c) (H : post (nI (ka_Y c))) :
    ∀ d h n, h + d = 5 → d < n → wY_numberOf_8 post (nI c) fb ff fs fk fn gf gs kn wy bo so ho rr n (nI (ka_yn c h)) (nI (6 - ka_xs c h)) (nI h) := by
  intro d
  induction d with
  | zero =>
    intro h n hi hn
    obtain ⟨n, rfl⟩ : ∃ m, n = m + 1 := ⟨n - 1, by omega⟩
    obtain rfl : h = 5 := by omega
    rw [wY_numberOf_8]
    refine br_t (by decide) (ya_si (h := 5) (ka_okl hc) (by omega) (ya_pl (ka_okl hc) ?_))
    rw [nI_add, show (2 : Int32) * nI (ka_yn c 5 + ka_sd c 5) = nI (2 * (ka_yn c 5 + ka_sd c 5)) from pk_mul 2 _, nI_add]
    exact H
  | succ d ih =>
    intro h n hi hn
    obtain ⟨n, rfl⟩ : ∃ m, n = m + 1 := ⟨n - 1, by omega⟩
    rw [wY_numberOf_8]
    exact br_f (nI_ge (b := 5) (by omega) (by omega)) ⟨ka_sd c h + 1, ya_17 hc (by omega) (ih (h + 1) n (by omega) (by omega)) (ka_sd c h) 0 _ (by omega) (by omega)⟩
theorem ya_nb {post : Int32 → Prop} {v : SY} {c : Nat} (hc : ka_ok c) (H : vp_in (nI (ka_Y c)) 1848 → (nI (ka_Y c)).toNatClampNeg = ka_Y c → post (nI (ka_Y c))) : wpY_numberOf post v (nI c) := by
  obtain ⟨fb, ff, fs, fk, fn, gf, gs, kn, wy, bo, so, ho, rr⟩ := v
  have b := ka_Yb hc
  exact ⟨6, ya_8 hc (H (vp_in_nI b (by omega)) (nI_clamp (by omega))) 5 0 6 rfl (by omega)⟩
