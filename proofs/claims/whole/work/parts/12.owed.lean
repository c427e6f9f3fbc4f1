/-! ===== what is owed ===== -/
def i_Rel (k : Nat) (u : SX) (v : SY) : Prop := ∃ (c A B m : Nat) (bd rc lb fl le lo tr li : Nat → Int32) (fn gf gs : Int32) (kn wy bo so ho rr : Nat → Int32), u = (nI (ka_pl c), nI m, nI m, bd, rc, lb, fl, le, lo, tr, li) ∧ v = (nI c, nI A, nI B, nI m, fn, gf, gs, kn, wy, bo, so, ho, rr) ∧ ka_R k c A B m bd rc lb fl le kn bo so ho
theorem ka_mk {k c A B m : Nat} {bd rc lb fl le lo tr li : Nat → Int32} {fn gf gs : Int32} {kn wy bo so ho rr : Nat → Int32} (h : ka_R k c A B m bd rc lb fl le kn bo so ho) : i_Rel k (nI (ka_pl c), nI m, nI m, bd, rc, lb, fl, le, lo, tr, li) (nI c, nI A, nI B, nI m, fn, gf, gs, kn, wy, bo, so, ho, rr) := ⟨c, A, B, m, bd, rc, lb, fl, le, lo, tr, li, fn, gf, gs, kn, wy, bo, so, ho, rr, rfl, rfl, h⟩
theorem i_up {k : Nat} {u : SX} {v : SY} (h : i_Rel k u v) : i_Rel (k + 3) u v := by
  obtain ⟨c, A, B, m, bd, rc, lb, fl, le, lo, tr, li, fn, gf, gs, kn, wy, bo, so, ho, rr, rfl, rfl, h⟩ := h
  exact ka_mk (ka_Rup h)
theorem i_vc0 : wpX_init (fun u => wpY_init (fun v => i_Rel 0 u v)) := by
  have ok : ka_ok 37449 := ⟨by decide, by decide +kernel⟩
  have pb := ka_pob ok
  have ln := (ka_X924 ok).2
  refine xa_in (fun bd lb fl le lo tr h1 h2 h3 h4 => ya_in ?_)
  exact ka_mk (c := 37449) (A := 0) (B := 0) (m := 0) ⟨ok, by omega, by omega, by omega, h1, h2, h3, h4, fun c hc => Or.inl rfl, ka_H0⟩
theorem i_vc_put {k : Nat} {u : SX} {v : SY} (I : i_Rel k u v) (hk : k + 3 ≤ 1536) (v1 : Int32) (v2 : Int32) : wpX_put (fun r u' => wpY_put (fun r' v' => r' = r ∧ i_Rel (k + 3) u' v') v v1 v2) u v1 v2 := by
  have J := i_up I
  obtain ⟨c, A, B, m, bd, rc, lb, fl, le, lo, tr, li, fn, gf, gs, kn, wy, bo, so, ho, rr, rfl, rfl, hc, hm, h3, h4, hA, hL, hF, hE, hK, hH⟩ := I
  unfold wpX_put
  dsimp only
  rcases pk_ix v1 (n := 6) (by omega) with z | z | ⟨h, hh, rfl⟩
  · exact br_t z (br_t rfl (br_t z ⟨rfl, J⟩))
  · obtain ⟨a, b, d, e⟩ := ka_gt (n := 5) z (by omega)
    exact br_f d (br_t z (br_t rfl (br_f d (br_t a ⟨rfl, J⟩))))
  · have y0 : ¬ nI h < 0 := nI_pos (by omega)
    have y5 : ¬ (5 : Int32) < nI h := show ¬ nI 5 < nI h from nI_nlt (by omega) (by omega)
    refine xa_ih hh (br_f (by decide) ?_)
    rcases pk_ix v2 (n := 7) (by omega) with z | z | ⟨n, hn, rfl⟩
    · exact br_t z (br_f y0 (br_f y5 (br_t z ⟨rfl, J⟩)))
    · obtain ⟨a, b, d, e⟩ := ka_gt (n := 6) z (by omega)
      exact br_f d (br_f b (br_f y0 (br_f y5 (br_f d (br_f b ⟨rfl, J⟩)))))
    · have n0 : ¬ nI n < 0 := nI_pos (by omega)
      have n6 : nI n ≤ 6 := nI_le (b := 6) (by omega) (by omega)
      have s6 := hc.2
      have sb : ka_sd c h ≤ ka_s0 c + ka_s1 c := by
        simp only [ka_s0, ka_s1]
        exact ka_6 (P := fun h => ka_sd c h ≤ ka_sd c 0 + ka_sd c 1 + ka_sd c 2 + (ka_sd c 3 + ka_sd c 4 + ka_sd c 5)) (by omega) (by omega) (by omega) (by omega) (by omega) (by omega) hh
      have ec : (nI h).toNatClampNeg = h := nI_clamp (by omega)
      have w : vp_in (nI h) 8 := vp_in_nI (by omega) (by omega)
      have ex : nI (ka_s0 c + ka_s1 c) - nI (ka_sd c h) + nI n = nI (ka_s0 c + ka_s1 c - ka_sd c h + n) := by rw [pk_sub sb, nI_add]
      refine br_f n0 (br_t n6 ⟨w, nm_r (e' := nI (ka_sd c h)) (by rw [ec]; exact ka_Ast hA hh) (xa_sh hA ?_)⟩)
      have Y : ∀ r u' (H1 : ka_s0 c + ka_s1 c - ka_sd c h + n ≤ 6 → nI (ka_sd c h) = r ∧ i_Rel (k + 3) u' (nI (ka_pc c h n), nI A, nI B, 0, fn, gf, gs, kn, wy, bo, so, ho, rr)) (H0 : 6 < ka_s0 c + ka_s1 c - ka_sd c h + n → -2000 = r ∧ i_Rel (k + 3) u' (nI c, nI A, nI B, nI m, fn, gf, gs, kn, wy, bo, so, ho, rr)), wpY_put (fun r' v' => r' = r ∧ i_Rel (k + 3) u' v') (nI c, nI A, nI B, nI m, fn, gf, gs, kn, wy, bo, so, ho, rr) (nI h) (nI n) := by
        intro r u' H1 H0
        refine br_f y0 (br_f y5 (br_f n0 (br_t n6 (ya_si (ka_okl hc) hh (ya_s0 (ka_okl hc) (ya_s1 (ka_okl hc) ?_))))))
        refine pk_le (ka_s0 c + ka_s1 c - ka_sd c h + n) 6 (fun q => nm_r (ka_put hc hh hn) (H1 q)) (fun q => H0 q) (hx := by rw [nI_add, ex])
      refine pk_le (ka_s0 c + ka_s1 c - ka_sd c h + n) 6 (fun q => ⟨w, nm_r (e' := upd bd h (nI n)) (by rw [ec]) (Y _ _ (fun _ => ⟨rfl, ?_⟩) (fun q' => by omega))⟩) (fun q => Y _ _ (fun q' => by omega) (fun _ => ⟨rfl, J⟩)) (hx := ex)
      obtain ⟨o1, o2, o3⟩ := ka_pco hc hh hn q
      have o4 := (ka_X924 o1).2
      have e : ka_pl c = ka_pl (ka_pc c h n) := (ka_pcd hh hn).2.symm
      rw [e]
      exact ka_mk (m := 0) ⟨o1, by omega, by omega, by omega, o3 A B bd hA, hL, hF, hE, hK, ka_H0⟩
theorem i_vc_stores {k : Nat} {u : SX} {v : SY} (I : i_Rel k u v) (hk : k + 3 ≤ 1536) (v1 : Int32) (v2 : Int32) : wpX_stores (fun r u' => wpY_stores (fun r' v' => r' = r ∧ i_Rel (k + 3) u' v') v v1 v2) u v1 v2 := by
  have J := i_up I
  obtain ⟨c, A, B, m, bd, rc, lb, fl, le, lo, tr, li, fn, gf, gs, kn, wy, bo, so, ho, rr, rfl, rfl, hc, hm, h3, h4, hA, hL, hF, hE, hK, hH⟩ := I
  rcases pk_ix v1 (n := 31) (by omega) with z | z | ⟨a, ha, rfl⟩
  · exact br_t z (br_t z ⟨rfl, J⟩)
  · obtain ⟨a, b, d, e⟩ := ka_gt (n := 30) z (by omega)
    exact br_f d (br_t a (br_f d (br_t a ⟨rfl, J⟩)))
  · have a0 : ¬ nI a < 0 := nI_pos (by omega)
    have a5 : ¬ (30 : Int32) < nI a := show ¬ nI 30 < nI a from nI_nlt (by omega) (by omega)
    rcases pk_ix v2 (n := 31) (by omega) with z | z | ⟨b, hb, rfl⟩
    · exact br_f a0 (br_f a5 (br_t z (br_f a0 (br_f a5 (br_t z ⟨rfl, J⟩)))))
    · obtain ⟨x, y, d, e⟩ := ka_gt (n := 30) z (by omega)
      exact br_f a0 (br_f a5 (br_f d (br_f y (br_f a0 (br_f a5 (br_f d (br_f y ⟨rfl, J⟩)))))))
    · have b0 : ¬ nI b < 0 := nI_pos (by omega)
      have b6 : nI b ≤ 30 := nI_le (b := 30) (by omega) (by omega)
      have ln := (ka_X924 hc).2
      have pb := ka_pob hc
      refine br_f a0 (br_f a5 (br_f b0 (br_t b6 (nm_e (nm_e (br_f a0 (br_f a5 (br_f b0 (br_t b6 ⟨rfl, ka_mk (m := 0) (A := a) (B := b) ⟨hc, by omega, by omega, by omega, fun j hj => ?_, hL, hF, hE, hK, ka_H0⟩⟩)))))))))
      rcases (by omega : j < 6 ∨ j = 6 ∨ j = 7) with y | rfl | rfl
      · rw [pk_un (by omega), pk_un (by omega), hA j hj, ka_bs6 y, ka_bs6 y]
      · rw [pk_un (by omega), pk_us]
        exact congrArg nI (Nat.zero_add a).symm
      · rw [pk_us]
        exact congrArg nI (Nat.zero_add b).symm
theorem i_vc_turn {k : Nat} {u : SX} {v : SY} (I : i_Rel k u v) (hk : k + 3 ≤ 1536) (v1 : Int32) : wpX_turn (fun r u' => wpY_turn (fun r' v' => r' = r ∧ i_Rel (k + 3) u' v') v v1) u v1 := by
  have J := i_up I
  obtain ⟨c, A, B, m, bd, rc, lb, fl, le, lo, tr, li, fn, gf, gs, kn, wy, bo, so, ho, rr, rfl, rfl, hc, hm, h3, h4, hA, hL, hF, hE, hK, hH⟩ := I
  have N : ¬ v1 = 0 → ¬ v1 = 1 → v1 < 0 ∨ (¬ v1 < 0 ∧ ¬ v1 ≤ 1) := by
    intro a b
    rcases pk_ix v1 (n := 2) (by omega) with z | z | ⟨q, hq, rfl⟩
    · exact Or.inl z
    · obtain ⟨x, y, d, e⟩ := ka_gt (n := 1) z (by omega)
      exact Or.inr ⟨d, y⟩
    · rcases (by omega : q = 0 ∨ q = 1) with rfl | rfl
      · exact absurd rfl a
      · exact absurd rfl b
  have P : ∀ q, q < 2 → wX_turn_13 (fun r u' => wpY_turn (fun r' v' => r' = r ∧ i_Rel (k + 3) u' v') (nI c, nI A, nI B, nI m, fn, gf, gs, kn, wy, bo, so, ho, rr) (nI q)) (nI q) (nI (ka_pl c)) (nI m) (nI m) bd rc lb fl le lo tr li := by
    intro q hq
    obtain ⟨o1, o2, o3⟩ := ka_tco hc hq
    have o4 := (ka_X924 o1).2
    have e : ka_pl (ka_tc c q) = q := (ka_tcd (c := c) (p := q)).2
    have R := ka_mk (k := k + 3) (c := ka_tc c q) (A := A) (B := B) (m := 0) (bd := bd) (rc := rc) (lb := lb) (fl := fl) (le := le) (lo := lo) (tr := tr) (li := li) (fn := fn) (gf := gf) (gs := gs) (kn := kn) (wy := wy) (bo := bo) (so := so) (ho := ho) (rr := rr) ⟨o1, by omega, by omega, by omega, o3 A B bd hA, hL, hF, hE, hK, ka_H0⟩
    rw [e] at R
    exact br_f (nI_pos (by omega)) (br_t (show nI q ≤ nI 1 from nI_le (by omega) (by omega)) (ya_pl (ka_okl hc) (nm_r (ka_trn (ka_okl hc) hq) ⟨rfl, R⟩)))
  by_cases z0 : v1 = 0
  · subst z0
    exact br_t rfl (P 0 (by omega))
  · by_cases z1 : v1 = 1
    · subst z1
      exact br_f (by decide) (br_t rfl (P 1 (by omega)))
    · refine br_f z0 (br_f z1 ?_)
      rcases N z0 z1 with y | ⟨y, x⟩
      · exact br_t y ⟨rfl, J⟩
      · exact br_f y (br_f x ⟨rfl, J⟩)
theorem i_vc_seeds {k : Nat} {u : SX} {v : SY} (I : i_Rel k u v) (hk : k + 3 ≤ 1536) (v1 : Int32) : wpX_seeds (fun r => wpY_seeds (fun r' => r' = r ∧ i_Rel (k + 3) u v) v v1) u v1 := by
  have J := i_up I
  obtain ⟨c, A, B, m, bd, rc, lb, fl, le, lo, tr, li, fn, gf, gs, kn, wy, bo, so, ho, rr, rfl, rfl, hc, hm, h3, h4, hA, hL, hF, hE, hK, hH⟩ := I
  rcases pk_ix v1 (n := 8) (by omega) with z | z | ⟨h, hh, rfl⟩
  · exact br_t z (br_t z ⟨rfl, J⟩)
  · obtain ⟨a, b, d, e⟩ := ka_gt (n := 7) z (by omega)
    exact br_f d (br_f e (br_f d (br_f b ⟨rfl, J⟩)))
  · have y0 : ¬ nI h < 0 := nI_pos (by omega)
    have y7 : nI h ≤ 7 := nI_le (b := 7) (by omega) (by omega)
    have ec : (nI h).toNatClampNeg = h := nI_clamp (by omega)
    refine br_f y0 (br_t (show nI h < nI 8 from nI_lt hh (by omega)) ⟨vp_in_nI hh (by omega), br_f y0 (br_t y7 ?_)⟩)
    rw [ec]
    refine pk_eq h 6 (fun e => ⟨?_, J⟩) (fun e => pk_eq h 7 (fun e' => ⟨?_, J⟩) (fun e' => ya_si (ka_okl hc) (by omega) ⟨(ka_Ast hA (by omega)).symm, J⟩))
    · rw [e]
      exact ((hA 6 (by omega)).trans (congrArg nI (Nat.zero_add A))).symm
    · rw [e']
      exact ((hA 7 (by omega)).trans (congrArg nI (Nat.zero_add B))).symm
theorem i_vc_toMove {k : Nat} {u : SX} {v : SY} (I : i_Rel k u v) (hk : k + 3 ≤ 1536) : wpX_toMove (fun r => wpY_toMove (fun r' => r' = r ∧ i_Rel (k + 3) u v) v) u := by
  have J := i_up I
  obtain ⟨c, A, B, m, bd, rc, lb, fl, le, lo, tr, li, fn, gf, gs, kn, wy, bo, so, ho, rr, rfl, rfl, hc, hm, h3, h4, hA, hL, hF, hE, hK, hH⟩ := I
  unfold wpX_toMove wpY_toMove
  dsimp only
  exact ya_pl (ka_okl hc) ⟨rfl, J⟩
theorem i_vc_over {k : Nat} {u : SX} {v : SY} (I : i_Rel k u v) (hk : k + 3 ≤ 1536) : wpX_over (fun r => wpY_over (fun r' => r' = r ∧ i_Rel (k + 3) u v) v) u := by
  have J := i_up I
  obtain ⟨c, A, B, m, bd, rc, lb, fl, le, lo, tr, li, fn, gf, gs, kn, wy, bo, so, ho, rr, rfl, rfl, hc, hm, h3, h4, hA, hL, hF, hE, hK, hH⟩ := I
  unfold wpX_over wpY_over
  dsimp only
  refine xa_io_board hA (fun j hj => ka_stb hc hj) (fun o => ⟨rfl, ya_io (ka_okl hc) (fun _ => ⟨rfl, rfl, J⟩) (fun q => ?_)⟩) (fun o => ⟨rfl, ya_io (ka_okl hc) (fun q => absurd (ka_sto.mpr q) o) (fun _ => ⟨rfl, rfl, J⟩)⟩)
  rw [ka_sto.mp o] at q
  cases q
theorem i_vc_play {k : Nat} {u : SX} {v : SY} (I : i_Rel k u v) (hk : k + 3 ≤ 1536) (v1 : Int32) : wpX_play (fun r u' => wpY_play (fun r' v' => r' = r ∧ i_Rel (k + 3) u' v') v v1) u v1 := by
  have J := i_up I
  obtain ⟨c, A, B, m, bd, rc, lb, fl, le, lo, tr, li, fn, gf, gs, kn, wy, bo, so, ho, rr, rfl, rfl, hc, hm, h3, h4, hA, hL, hF, hE, hK, hH⟩ := I
  unfold wpX_play
  dsimp only
  rcases pk_ix v1 (n := 6) (by omega) with z | z | ⟨h, hh, rfl⟩
  · exact br_t z (br_t rfl (br_t z ⟨rfl, J⟩))
  · obtain ⟨a, b, d, e⟩ := ka_gt (n := 5) z (by omega)
    exact br_f d (br_t z (br_t rfl (br_f d (br_f b ⟨rfl, J⟩))))
  · have y0 : ¬ nI h < 0 := nI_pos (by omega)
    have y5 : nI h ≤ 5 := nI_le (b := 5) (by omega) (by omega)
    refine xa_ih hh (br_f (by decide) (xa_im_board hc hh hA (fun mv => br_f (by decide) ?_) (fun mv => br_t rfl (br_f y0 (br_t y5 (ya_im (ka_okl hc) hh (fun q => ?_) (fun _ => br_t rfl ⟨rfl, J⟩)))))))
    · have st := ka_step hc hh mv
      have ok := ka_okn hc hh mv
      have sn := ka_sn hc hh mv
      have s6 := hc.2
      have m9 : m < 19 := by omega
      refine xa_rm m9 (fun rc' r1 r2 r3 r4 => ?_)
      dsimp only
      refine xa_mm_board hc hh mv hA (fun a ha => ?_)
      dsimp only
      have wm : vp_in (nI m) 20 := vp_in_nI (by omega) (by omega)
      have cm : (nI m).toNatClampNeg = m := nI_clamp (by omega)
      have eS : 1000 * nI A + nI B = nI (1000 * A + B) := by rw [show (1000 : Int32) * nI A = nI (1000 * A) from pk_mul 1000 A, nI_add]
      unfold wpY_play
      dsimp only
      refine br_f y0 (br_t y5 (ya_im (ka_okl hc) hh (fun _ => br_f (by decide) (br_f (fun q => ?_) ?_)) (fun q => ?_)))
      · have := (nI_eq (a := m) (b := 20) (by omega) (by omega)).mp q
        omega
      · refine ⟨wm, nm_r (e' := upd bo m (nI c)) (by rw [cm]) ⟨wm, nm_r (e' := upd so m (nI (1000 * A + B))) (by rw [cm, eS]) ⟨wm, nm_r (e' := upd ho m (nI h)) (by rw [cm]) (nm_r (nI_1 m) (ya_mv hc hh mv (fun rr' => nm_r (e' := nI (A + ka_fin c h 6)) (nI_add _ _) (nm_r (e' := nI (B + ka_fin c h 7)) (nI_add _ _) (ya_pl (ka_okl ok) ⟨rfl, ?_⟩)))))⟩⟩⟩
        refine ka_mk ⟨ok, by omega, by omega, by omega, ha, hL, hF, hE, hK, fun i hi => ?_⟩
        by_cases e : i = m
        · subst e
          exact ⟨c, A, B, h, hc, hh, by omega, by omega, by omega, ka_Ae hA (fun _ _ => rfl) (fun j hj => r1 j hj), r2, r3, pk_us, pk_us, pk_us⟩
        · obtain ⟨c', A', B', h', q1, q2, q3, q4, q5, q6, q7, q8, q9, q10, q11⟩ := hH i (by omega)
          refine ⟨c', A', B', h', q1, q2, q3, by omega, by omega, ka_Ae q6 (fun _ _ => rfl) (fun j hj => r4 _ (by omega)), (r4 _ (by omega)).trans q7, (r4 _ (by omega)).trans q8, (pk_un e).trans q9, (pk_un e).trans q10, (pk_un e).trans q11⟩
      · rw [mv] at q
        cases q
    · rw [mv] at q
      cases q
theorem i_vc_undo {k : Nat} {u : SX} {v : SY} (I : i_Rel k u v) (hk : k + 3 ≤ 1536) : wpX_undo (fun r u' => wpY_undo (fun r' v' => r' = r ∧ i_Rel (k + 3) u' v') v) u := by
  have J := i_up I
  obtain ⟨c, A, B, m, bd, rc, lb, fl, le, lo, tr, li, fn, gf, gs, kn, wy, bo, so, ho, rr, rfl, rfl, hc, hm, h3, h4, hA, hL, hF, hE, hK, hH⟩ := I
  rcases (by cases m with | zero => exact Or.inl rfl | succ E => exact Or.inr ⟨E, rfl⟩ : m = 0 ∨ ∃ q, m = q + 1) with rfl | ⟨q, rfl⟩
  · exact br_t rfl (br_t rfl ⟨rfl, J⟩)
  · obtain ⟨c', A', B', h', q1, q2, q3, q4, q5, q6, q7, q8, q9, q10, q11⟩ := hH q (by omega)
    have w : vp_in (nI q) 20 := vp_in_nI (by omega) (by omega)
    have cq : (nI q).toNatClampNeg = q := nI_clamp (by omega)
    refine xa_un (by omega) (fun bd' hb => ?_)
    refine br_f (nI_ne0 (by omega) (by omega)) (nm_r (nI_pred q) ⟨w, nm_r (e' := nI c') (by rw [cq]; exact q9) ⟨w, by decide, nm_r (e' := nI A') ?_ ⟨w, by decide, nm_r (e' := nI B') ?_ ⟨w, ?_, ?_⟩⟩⟩⟩)
    · rw [cq, q10, show nI (1000 * A' + B') / 1000 = nI ((1000 * A' + B') / 1000) from pk_div (d := 1000) (by omega) (by omega) (by omega)]
      exact congrArg nI (by omega)
    · rw [cq, q10, show nI (1000 * A' + B') - nI (1000 * A' + B') / 1000 * 1000 = nI ((1000 * A' + B') % 1000) from pk_rem (d := 1000) (by omega) (by omega) (by omega)]
      exact congrArg nI (by omega)
    · rw [cq, q11, q8]
    · rw [q7]
      exact ka_mk ⟨q1, q3, by omega, by omega, ka_Ae q6 (fun _ _ => rfl) hb, hL, hF, hE, hK, ka_Hup (fun i hi => hH i (by omega))⟩
theorem ka_AB {A B : Nat} {V : Int} : nI A - nI B + ka_I V = ka_I ((A : Int) - (B : Int) + V) := by rw [ka_In, ka_In, ka_Is, ka_Ia]
theorem i_vc_value {k : Nat} {u : SX} {v : SY} (I : i_Rel k u v) (hk : k + 3 ≤ 1536) : wpX_value (fun r => wpY_value (fun r' v' => r' = r ∧ i_Rel (k + 3) u v') v) u := by
  obtain ⟨c, A, B, m, bd, rc, lb, fl, le, lo, tr, li, fn, gf, gs, kn, wy, bo, so, ho, rr, rfl, rfl, R⟩ := I
  have R' := ka_Rup R
  obtain ⟨hc, hm, h3, h4, hA, hL, hF, hE, hK, hH⟩ := R
  unfold wpX_value wpY_value
  dsimp only
  refine xa_ro_fairLeads_board hc hL hA (hF c hc (ka_X924 hc).1) (ya_vo hc hK (fun fn gf gs kn' wy rr hK' => ⟨ka_AB, ka_mk ?_⟩))
  exact ⟨R'.1, R'.2.1, R'.2.2.1, R'.2.2.2.1, hA, hL, hF, hE, hK', R'.2.2.2.2.2.2.2.2.2⟩
theorem i_vc_after {k : Nat} {u : SX} {v : SY} (I : i_Rel k u v) (hk : k + 3 ≤ 1536) (v1 : Int32) : wpX_after (fun r u' => wpY_after (fun r' v' => r' = r ∧ i_Rel (k + 3) u' v') v v1) u v1 := by
  have J := i_up I
  obtain ⟨c, A, B, m, bd, rc, lb, fl, le, lo, tr, li, fn, gf, gs, kn, wy, bo, so, ho, rr, rfl, rfl, R⟩ := I
  have R' := ka_Rup R
  obtain ⟨hc, hm, h3, h4, hA, hL, hF, hE, hK, hH⟩ := R
  unfold wpX_after
  dsimp only
  rcases pk_ix v1 (n := 6) (by omega) with z | z | ⟨h, hh, rfl⟩
  · exact br_t z (br_t rfl (br_t z ⟨rfl, J⟩))
  · obtain ⟨a, b, d, e⟩ := ka_gt (n := 5) z (by omega)
    exact br_f d (br_t z (br_t rfl (br_f d (br_f b ⟨rfl, J⟩))))
  · have y0 : ¬ nI h < 0 := nI_pos (by omega)
    have y5 : nI h ≤ 5 := nI_le (b := 5) (by omega) (by omega)
    refine xa_ih hh (br_f (by decide) (xa_im_board hc hh hA (fun mv => br_f (by decide) ?_) (fun mv => br_t rfl (br_f y0 (br_t y5 (ya_im (ka_okl hc) hh (fun q => ?_) (fun _ => br_t rfl ⟨rfl, J⟩)))))))
    · have ok := ka_okn hc hh mv
      refine xa_ra_fairLeads_board hc hh mv hL hA (hF _ ok (ka_X924 ok).1) (fun tr' => ?_)
      dsimp only
      refine br_f y0 (br_t y5 (ya_im (ka_okl hc) hh (fun _ => br_f (by decide) (ya_am hc hh mv hK (fun fn gf gs kn' wy rr hK' => ⟨ka_AB, ka_mk ?_⟩))) (fun q => ?_)))
      · exact ⟨R'.1, R'.2.1, R'.2.2.1, R'.2.2.2.1, hA, hL, hF, hE, hK', R'.2.2.2.2.2.2.2.2.2⟩
      · rw [mv] at q
        cases q
    · rw [mv] at q
      cases q
theorem i_vc_best {k : Nat} {u : SX} {v : SY} (I : i_Rel k u v) (hk : k + 3 ≤ 1536) : wpX_best (fun r u' => wpY_best (fun r' v' => r' = r ∧ i_Rel (k + 3) u' v') v) u := by
  obtain ⟨c, A, B, m, bd, rc, lb, fl, le, lo, tr, li, fn, gf, gs, kn, wy, bo, so, ho, rr, rfl, rfl, R⟩ := I
  have R' := ka_Rup R
  obtain ⟨hc, hm, h3, h4, hA, hL, hF, hE, hK, hH⟩ := R
  unfold wpX_best
  dsimp only
  refine xa_bo_board hc (by omega) hL hA hF (fun tr' => ?_)
  unfold wpY_best
  dsimp only
  refine ya_bo hc hK (fun fn gf gs kn' wy rr hK' => ⟨rfl, ka_mk ?_⟩)
  exact ⟨R'.1, R'.2.1, R'.2.2.1, R'.2.2.2.1, hA, hL, hF, hE, hK', R'.2.2.2.2.2.2.2.2.2⟩
theorem i_vc_moves {k : Nat} {u : SX} {v : SY} (I : i_Rel k u v) (hk : k + 3 ≤ 1536) : wpX_moves (fun r => wpY_moves (fun r' => r' = r ∧ i_Rel (k + 3) u v) v) u := by
  have J := i_up I
  obtain ⟨c, A, B, m, bd, rc, lb, fl, le, lo, tr, li, fn, gf, gs, kn, wy, bo, so, ho, rr, rfl, rfl, hc, hm, h3, h4, hA, hL, hF, hE, hK, hH⟩ := I
  exact xa_mo hc hA (ya_mo hc ⟨rfl, J⟩)
theorem i_vc_length {k : Nat} {u : SX} {v : SY} (I : i_Rel k u v) (hk : k + 3 ≤ 1536) : wpX_length (fun r u' => wpY_length (fun r' v' => r' = r ∧ i_Rel (k + 3) u' v') v) u := by
  obtain ⟨c, A, B, m, bd, rc, lb, fl, le, lo, tr, li, fn, gf, gs, kn, wy, bo, so, ho, rr, rfl, rfl, R⟩ := I
  have R' := ka_Rup R
  obtain ⟨hc, hm, h3, h4, hA, hL, hF, hE, hK, hH⟩ := R
  have ln := (ka_X924 hc).2
  unfold wpX_length
  dsimp only
  refine xa_cb_board_line (fun t ht => ⟨13, ?_⟩)
  refine xa_le18 hL hF 12 13 c 0 A B tr t (by omega) hc (by omega) (by omega) (by omega) (ka_Ae hA (fun _ _ => rfl) ht) (fun tr' li' => ⟨13, ?_⟩)
  refine ya_le7 12 13 c 0 _ _ _ _ _ _ (by omega) hc (by omega) (by omega) hK (fun fn gf gs kn' wy rr hK' => ⟨rfl, ka_mk ?_⟩)
  exact ⟨R'.1, R'.2.1, R'.2.2.1, R'.2.2.2.1, hA, hL, hF, hE, hK', R'.2.2.2.2.2.2.2.2.2⟩
theorem i_vc_worst {k : Nat} {u : SX} {v : SY} (I : i_Rel k u v) (hk : k + 3 ≤ 1536) : wpX_worst (fun r => wpY_worst (fun r' v' => r' = r ∧ i_Rel (k + 3) u v') v) u := by
  obtain ⟨c, A, B, m, bd, rc, lb, fl, le, lo, tr, li, fn, gf, gs, kn, wy, bo, so, ho, rr, rfl, rfl, R⟩ := I
  have R' := ka_Rup R
  obtain ⟨hc, hm, h3, h4, hA, hL, hF, hE, hK, hH⟩ := R
  unfold wpX_worst wpY_worst
  dsimp only
  refine xa_ro_leastLeads_board hc hL hA (hE c hc (ka_X924 hc).1) (ya_so hc hK (fun fn gf gs kn' wy rr hK' => ⟨by decide, ?_, ka_mk ?_⟩))
  · obtain ⟨-, k2, -, -, k5⟩ := ka_kb hc
    rw [show nI (ka_k c) - nI (ka_k c) / 64 * 64 = nI (ka_k c % 64) from pk_rem (d := 64) (by omega) (by omega) (by omega), ka_In, ka_In, ka_In, show (16 : Int32) = ka_I 16 by decide, ka_Is, ka_Ia, ka_Is, k5]
    exact congrArg ka_I (by omega)
  · exact ⟨R'.1, R'.2.1, R'.2.2.1, R'.2.2.2.1, hA, hL, hF, hE, hK', R'.2.2.2.2.2.2.2.2.2⟩
