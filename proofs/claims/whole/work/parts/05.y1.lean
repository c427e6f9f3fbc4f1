/-! ===== the reference: small methods ===== -/
theorem ka_s0b (c : Nat) : ka_s0 c < 24 ∧ ka_s1 c < 24 := by
  have := ka_sd8 c 0
  have := ka_sd8 c 1
  have := ka_sd8 c 2
  have := ka_sd8 c 3
  have := ka_sd8 c 4
  have := ka_sd8 c 5
  simp only [ka_s0, ka_s1]
  omega
theorem ya_si {post : Int32 → Prop} {v : SY} {c h : Nat} (hc : c < 2 ^ 31) (hh : h < 6) (H : post (nI (ka_sd c h))) : wpY_seedsIn post v (nI c) (nI h) := by
  obtain ⟨fb, ff, fs, fk, fn, gf, gs, kn, wy, bo, so, ho, rr⟩ := v
  have e : nI c >>> ((3 * nI h) &&& 31) &&& 7 = nI (ka_sd c h) := ka_shr hc hh
  show post ((nI c >>> ((3 * nI h) &&& 31)) &&& 7)
  rw [e]
  exact H
theorem ya_pl {post : Int32 → Prop} {v : SY} {c : Nat} (hc : c < 2 ^ 31) (H : post (nI (ka_pl c))) : wpY_player post v (nI c) := by
  obtain ⟨fb, ff, fs, fk, fn, gf, gs, kn, wy, bo, so, ho, rr⟩ := v
  show post (nI c >>> ((18 : Int32) &&& 31))
  rw [ka_s18 hc]
  exact H
theorem ya_s0 {post : Int32 → Prop} {v : SY} {c : Nat} (hc : c < 2 ^ 31) (H : post (nI (ka_s0 c))) : wpY_side post v (nI c) 0 := by
  obtain ⟨fb, ff, fs, fk, fn, gf, gs, kn, wy, bo, so, ho, rr⟩ := v
  unfold wpY_side
  dsimp only
  rw [show (3 : Int32) * 0 = nI 0 by decide, show nI 0 + 1 = nI 1 by decide, show nI 0 + 2 = nI 2 by decide]
  refine ya_si hc (by omega) (ya_si hc (by omega) (ya_si hc (by omega) ?_))
  rw [nI_add, nI_add]
  exact H
theorem ya_s1 {post : Int32 → Prop} {v : SY} {c : Nat} (hc : c < 2 ^ 31) (H : post (nI (ka_s1 c))) : wpY_side post v (nI c) 1 := by
  obtain ⟨fb, ff, fs, fk, fn, gf, gs, kn, wy, bo, so, ho, rr⟩ := v
  unfold wpY_side
  dsimp only
  rw [show (3 : Int32) * 1 = nI 3 by decide, show nI 3 + 1 = nI 4 by decide, show nI 3 + 2 = nI 5 by decide]
  refine ya_si hc (by omega) (ya_si hc (by omega) (ya_si hc (by omega) ?_))
  rw [nI_add, nI_add]
  exact H
theorem ya_io {post : Int32 → Prop} {v : SY} {c : Nat} (hc : c < 2 ^ 31) (H1 : ka_over c = true → post 1) (H0 : ka_over c = false → post 0) : wpY_isOver post v (nI c) := by
  obtain ⟨fb, ff, fs, fk, fn, gf, gs, kn, wy, bo, so, ho, rr⟩ := v
  unfold wpY_isOver
  dsimp only
  have b := ka_s0b c
  refine ya_s0 hc (pk_eq (ka_s0 c) 0 (fun e => H1 (ka_ovI.mpr (Or.inl e))) (fun e => ya_s1 hc (pk_eq (ka_s1 c) 0 (fun e' => H1 (ka_ovI.mpr (Or.inr e'))) (fun e' => H0 (ka_ovF.mpr ⟨e, e'⟩)))))
theorem ya_im {post : Int32 → Prop} {v : SY} {c h : Nat} (hc : c < 2 ^ 31) (hh : h < 6) (H1 : ka_mv c h = true → post 1) (H0 : ka_mv c h = false → post 0) : wpY_isMove post v (nI c) (nI h) := by
  obtain ⟨fb, ff, fs, fk, fn, gf, gs, kn, wy, bo, so, ho, rr⟩ := v
  unfold wpY_isMove
  dsimp only
  have F : ¬ (h / 3 = ka_pl c ∧ 0 < ka_sd c h ∧ ka_over c = false) → ka_mv c h = false := fun z => by
    cases e : ka_mv c h with
    | false => rfl
    | true => exact absurd (ka_mvI.mp e) z
  have p : ka_pl c < 2 ^ 31 := Nat.lt_of_le_of_lt (Nat.div_le_self _ _) hc
  have s := ka_sd8 c h
  refine br_f (nI_pos (by omega)) (br_f (show ¬ nI 5 < nI h from nI_nlt (by omega) (by omega)) ⟨by decide, ya_pl hc ?_⟩)
  refine pk_eq (h / 3) (ka_pl c) (fun e => ya_si hc hh ?_) (fun e => H0 (F (fun z => e z.1))) (hx := pk_div (d := 3) (by omega) (by omega) (by omega))
  refine pk_le (ka_sd c h) 0 (fun e' => H0 (F (fun z => by omega))) (fun e' => ya_io hc (fun o => ?_) (fun o => ?_))
  · exact br_f (by decide) (H0 (F (fun z => by rw [o] at z; cases z.2.2)))
  · exact br_t rfl (H1 (ka_mvI.mpr ⟨e, e', o⟩))
section
variable {fb ff fs fk fn gf gs : Int32} {kn wy bo so ho rr : Nat → Int32}
/-! the row of the reference against the pure board -/
def ya_S (g : Nat → Nat) (rr : Nat → Int32) (gf gs : Int32) : Prop := (∀ j, j < 6 → rr j = nI (g j)) ∧ gf = nI (g 6) ∧ gs = nI (g 7)
theorem ya_Su {g : Nat → Nat} {rr : Nat → Int32} {gf gs : Int32} {i w : Nat} {x : Int32} (h : ya_S g rr gf gs) (hi : i < 6) (hx : x = nI w) : ya_S (ka_up g i w) (upd rr i x) gf gs := by
  refine ⟨fun j hj => ?_, ?_, ?_⟩
  · unfold upd ka_up
    by_cases e : j = i
    · rw [if_pos e, if_pos e]; exact hx
    · rw [if_neg e, if_neg e]; exact h.1 j hj
  · rw [ka_upn (by omega)]; exact h.2.1
  · rw [ka_upn (by omega)]; exact h.2.2
theorem ya_gn {post : SY → Prop} {p n : Nat} {g : Nat → Nat} (hp : p < 2) (h : ya_S g rr gf gs) (K : ∀ gf' gs', ya_S (ka_up g (6 + p) (g (6 + p) + n)) rr gf' gs' → post (fb, ff, fs, fk, fn, gf', gs', kn, wy, bo, so, ho, rr)) : wpY_gain post (fb, ff, fs, fk, fn, gf, gs, kn, wy, bo, so, ho, rr) (nI p) (nI n) := by
  have k : ∀ j, j < 6 → rr j = nI (ka_up g (6 + p) (g (6 + p) + n) j) := fun j hj => by rw [ka_upn (by omega)]; exact h.1 j hj
  rcases (by omega : p = 0 ∨ p = 1) with rfl | rfl
  · refine br_t rfl (br_f (by decide) (K _ _ ⟨k, ?_, ?_⟩))
    · rw [h.2.1, nI_add]; rfl
    · rw [h.2.2]; rfl
  · refine br_f (by decide) (br_t rfl (nm_e (K _ _ ⟨k, ?_, ?_⟩)))
    · rw [h.2.1]; rfl
    · rw [h.2.2, nI_add]; rfl
theorem ya_50 {post : Int32 → SY → Prop} {J : _} {p a n : Nat} {g : Nat → Nat} (ha : a < 6) (h : ya_S g rr gf gs) (K : ∀ rr', ya_S (ka_up g ((a + 1) % 6) (g ((a + 1) % 6) + 1)) rr' gf gs → J (nI n) (nI ((a + 1) % 6)) 0 fb ff fs fk fn gf gs kn wy bo so ho rr') : wY_sow_50 post J (nI p) (nI (n + 1)) (nI a) 0 fb ff fs fk fn gf gs kn wy bo so ho rr := by
  have e : nI a + 1 - (nI a + 1) / 6 * 6 = nI ((a + 1) % 6) := by
    rw [nI_1]
    exact pk_rem (d := 6) (by omega) (by omega) (by omega)
  have b : (a + 1) % 6 < 6 := Nat.mod_lt _ (by decide)
  have w : vp_in (nI ((a + 1) % 6)) 6 := vp_in_nI b (by omega)
  refine br_t rfl ⟨by decide, nm_r e ⟨w, w, nm_e (nm_r (pk_m1 n) (K _ ?_))⟩⟩
  rw [nI_clamp (by omega), h.1 _ b, nI_1]
  exact ya_Su h b rfl
theorem ya_51 {post : Int32 → SY → Prop} {J : _} {p a n : Nat} {g : Nat → Nat} (hp : p < 2) (h : ya_S g rr gf gs) (K : ∀ gf' gs', ya_S (ka_up g (6 + p) (g (6 + p) + 1)) rr gf' gs' → J (nI n) (nI a) 1 fb ff fs fk fn gf' gs' kn wy bo so ho rr) : wY_sow_50 post J (nI p) (nI (n + 1)) (nI a) 1 fb ff fs fk fn gf gs kn wy bo so ho rr := by
  refine br_f (by decide) ?_
  exact ya_gn (n := 1) hp h (fun gf' gs' z => nm_r (pk_m1 n) (K gf' gs' z))
theorem ya_sl {post : Int32 → SY → Prop} {p : Nat} (hp : p < 2) : ∀ (n N : Nat) (g : Nat → Nat) (t a : Nat) (x : Int32) (rr : Nat → Int32) (gf gs : Int32), n < N → n ≤ 6 → ya_S g rr gf gs → ((x = 0 ∧ t = a ∧ a < 6) ∨ (x = 1 ∧ t = 6 + p ∧ a = 3 * p + 2)) →
    (∀ rr' gf' gs', ya_S (ka_sw p n g t).1 rr' gf' gs' → post (nI (if (ka_sw p n g t).2 < 6 then (ka_sw p n g t).2 else 6)) (fb, ff, fs, fk, fn, gf', gs', kn, wy, bo, so, ho, rr')) →
    wY_sow_20 post (nI p) N (nI n) (nI a) x fb ff fs fk fn gf gs kn wy bo so ho rr := by
  intro n
  induction n with
  | zero =>
    intro N g t a x rr gf gs hN _ hS hx K
    obtain ⟨N, rfl⟩ : ∃ m, N = m + 1 := ⟨N - 1, by omega⟩
    rw [wY_sow_20]
    refine br_t (by decide) ?_
    have K' := K rr gf gs hS
    rcases hx with ⟨rfl, rfl, ha⟩ | ⟨rfl, rfl, ha⟩
    · refine br_t rfl ?_
      have e : (if (ka_sw p 0 g t).2 < 6 then (ka_sw p 0 g t).2 else 6) = t := if_pos ha
      rw [e] at K'
      exact K'
    · refine br_f (by decide) ?_
      have e : (if (ka_sw p 0 g (6 + p)).2 < 6 then (ka_sw p 0 g (6 + p)).2 else 6) = 6 := if_neg (by show ¬ 6 + p < 6; omega)
      rw [e] at K'
      exact K'
  | succ n ih =>
    intro N g t a x rr gf gs hN hn hS hx K
    obtain ⟨N, rfl⟩ : ∃ m, N = m + 1 := ⟨N - 1, by omega⟩
    rw [wY_sow_20]
    have ha : a < 6 := by rcases hx with z | z <;> omega
    have e1 : nI a - nI a / 3 * 3 = nI (a % 3) := pk_rem (d := 3) (by omega) (by omega) (by omega)
    have e2 : nI a / 3 = nI (a / 3) := pk_div (d := 3) (by omega) (by omega) (by omega)
    have G : ¬ (a % 3 = 2 ∧ a / 3 = p ∧ x = 0) → wY_sow_50 post (wY_sow_20 post (nI p) N) (nI p) (nI (n + 1)) (nI a) 0 fb ff fs fk fn gf gs kn wy bo so ho rr := by
      intro z
      have et : ka_nt p t = (a + 1) % 6 := by
        unfold ka_nt
        rcases hx with ⟨hx, h2, h3⟩ | ⟨hx, h2, h3⟩
        · rw [if_neg (fun y => z ⟨by omega, by omega, hx⟩), if_neg (by omega), h2]
        · rw [if_neg (by omega), if_pos h2]
          omega
      refine ya_50 ha hS (fun rr' h' => ih N _ (ka_nt p t) _ _ _ _ _ (by omega) (by omega) (by rw [et]; exact h') (Or.inl ⟨rfl, et, Nat.mod_lt _ (by decide)⟩) K)
    refine br_f (nI_nle (by omega) (by omega)) ⟨by decide, ?_⟩
    refine pk_eq (a % 3) 2 (fun h1 => ⟨by decide, ?_⟩) (fun h1 => ?_) (hx := e1)
    · refine pk_eq (a / 3) p (fun h2 => ?_) (fun h2 => ?_) (hx := e2)
      · rcases hx with ⟨rfl, rfl, h3⟩ | ⟨rfl, h3, h4⟩
        · refine br_t rfl ?_
          have et : ka_nt p t = 6 + p := if_pos (by omega)
          refine ya_51 hp hS (fun gf' gs' h' => ih N _ (ka_nt p t) _ _ _ _ _ (by omega) (by omega) (by rw [et]; exact h') (Or.inr ⟨rfl, et, by omega⟩) K)
        · refine br_f (by decide) ?_
          exact G (fun z => absurd z.2.2 (by decide))
      · exact G (fun z => h2 z.2.1)
    · exact G (fun z => h1 z.1)
theorem ya_sw {post : Int32 → SY → Prop} {p h d : Nat} {g : Nat → Nat} (hp : p < 2) (hh : h < 6) (hS : ya_S g rr gf gs) (hd : g h = d) (hd6 : d ≤ 6)
    (K : ∀ rr' gf' gs', ya_S (ka_sw p d (ka_up g h 0) h).1 rr' gf' gs' → post (nI (if (ka_sw p d (ka_up g h 0) h).2 < 6 then (ka_sw p d (ka_up g h 0) h).2 else 6)) (fb, ff, fs, fk, fn, gf', gs', kn, wy, bo, so, ho, rr')) :
    wpY_sow post (fb, ff, fs, fk, fn, gf, gs, kn, wy, bo, so, ho, rr) (nI p) (nI h) := by
  have w : vp_in (nI h) 6 := vp_in_nI hh (by omega)
  have e : (nI h).toNatClampNeg = h := nI_clamp (by omega)
  refine ⟨w, nm_r (e' := nI d) (by rw [e, hS.1 h hh, hd]) ⟨w, nm_r (e' := upd rr h 0) (by rw [e]) ⟨d + 1, ?_⟩⟩⟩
  exact ya_sl hp d (d + 1) (ka_up g h 0) h h 0 _ _ _ (by omega) hd6 (ya_Su hS hh rfl) (Or.inl ⟨rfl, rfl, hh⟩) K
/-! the end of a move -/
def ka_ac (f : Nat → Nat) : Nat → Nat
  | 0 => 0
  | i + 1 => ka_ac f i + f i * 8 ^ i
theorem ka_acb {f : Nat → Nat} (hf : ∀ j, j < 6 → f j < 8) : ∀ i, i ≤ 6 → ka_ac f i < 8 ^ i
  | 0, _ => by simp [ka_ac]
  | i + 1, h => by
    have a := ka_acb hf i (by omega)
    have b : f i * 8 ^ i ≤ 7 * 8 ^ i := Nat.mul_le_mul_right _ (by have := hf i (by omega); omega)
    simp only [ka_ac, Nat.pow_succ]
    omega
theorem ya_218 {post : SY → Prop} {f : Nat → Nat} {u : Nat} (hf : ∀ j, j < 6 → f j < 8) (hr : ∀ j, j < 6 → rr j = nI (f j)) (K : post (fb, ff, fs, fk, nI (ka_ac f 6 + 262144 * u), gf, gs, kn, wy, bo, so, ho, rr)) :
    ∀ d i n, i + d = 6 → d < n → wY_move_218 post fb ff fs fk gf gs kn wy bo so ho rr n (nI i) (nI (ka_ac f i + 262144 * u)) := by
  intro d
  induction d with
  | zero =>
    intro i n hi hn
    obtain ⟨n, rfl⟩ : ∃ m, n = m + 1 := ⟨n - 1, by omega⟩
    obtain rfl : i = 6 := by omega
    rw [wY_move_218]
    exact br_t (by decide) K
  | succ d ih =>
    intro i n hi hn
    obtain ⟨n, rfl⟩ : ∃ m, n = m + 1 := ⟨n - 1, by omega⟩
    rw [wY_move_218]
    have w : vp_in (nI i) 6 := vp_in_nI (by omega) (by omega)
    have e : (nI i).toNatClampNeg = i := nI_clamp (by omega)
    have hi6 : i < 6 := by omega
    refine br_f (nI_ge (b := 6) (by omega) (by omega)) ⟨w, nm_r (e' := nI (ka_ac f (i + 1) + 262144 * u)) ?_ (nm_r (nI_1 i) (ih (i + 1) n (by omega) (by omega)))⟩
    have q : nI (f i) <<< ((3 * nI i) &&& 31) = nI (f i * 8 ^ i) := ka_shl (hf i hi6) hi6
    rw [e, hr i hi6, q, nx_or, ka_orn (ka_acb hf i (by omega)) (hf i hi6) hi6]
    rfl
theorem ya_194 {post : SY → Prop} {f : Nat → Nat} {p r : Nat} (hp : p < 2) (hr7 : r < 7) (hf : ∀ j, j < 6 → f j < 8) (hr : ∀ j, j < 6 → rr j = nI (f j)) (K : post (fb, ff, fs, fk, nI (ka_ac f 6 + 262144 * (if r = 6 then p else 1 - p)), gf, gs, kn, wy, bo, so, ho, rr)) :
    wY_move_194 post (nI p) (nI r) fb ff fs fk fn gf gs kn wy bo so ho rr := by
  refine pk_eq r 6 (fun e => ?_) (fun e => ?_)
  · rw [if_pos e] at K
    refine nm_r (e' := nI (ka_ac f 0 + 262144 * p)) ?_ ⟨7, ya_218 hf hr K 6 0 7 rfl (by omega)⟩
    rw [ka_l18 hp]
    exact congrArg nI (by simp only [ka_ac]; omega)
  · rw [if_neg e] at K
    refine nm_r (e' := nI (ka_ac f 0 + 262144 * (1 - p))) ?_ ⟨7, ya_218 hf hr K 6 0 7 rfl (by omega)⟩
    rw [show (1 : Int32) - nI p = nI (1 - p) from pk_sub (a := 1) (by omega), ka_l18 (by omega)]
    exact congrArg nI (by simp only [ka_ac]; omega)
theorem ya_173 {post : SY → Prop} {p r : Nat} (K : ∀ rr', (∀ j, j < 6 → rr' j = nI 0) → wY_move_194 post (nI p) (nI r) fb ff fs fk fn gf gs kn wy bo so ho rr') :
    ∀ d i n rr, i + d = 6 → d < n → (∀ j, j < i → rr j = nI 0) → wY_move_173 post (nI p) (nI r) fb ff fs fk fn gf gs n (nI i) kn wy bo so ho rr := by
  intro d
  induction d with
  | zero =>
    intro i n rr hi hn hr
    obtain ⟨n, rfl⟩ : ∃ m, n = m + 1 := ⟨n - 1, by omega⟩
    obtain rfl : i = 6 := by omega
    rw [wY_move_173]
    exact br_t (by decide) (K rr hr)
  | succ d ih =>
    intro i n rr hi hn hr
    obtain ⟨n, rfl⟩ : ∃ m, n = m + 1 := ⟨n - 1, by omega⟩
    rw [wY_move_173]
    have w : vp_in (nI i) 6 := vp_in_nI (by omega) (by omega)
    have e : (nI i).toNatClampNeg = i := nI_clamp (by omega)
    refine br_f (nI_ge (b := 6) (by omega) (by omega)) ⟨w, nm_r (e' := upd rr i 0) (by rw [e]) (nm_r (nI_1 i) (ih (i + 1) n _ (by omega) (by omega) (fun j hj => ?_)))⟩
    by_cases z : j = i
    · rw [z, pk_us]; rfl
    · rw [pk_un z]; exact hr j (by omega)
theorem ya_r0 {post : Int32 → Prop} {g : Nat → Nat} (hS : ∀ j, j < 6 → rr j = nI (g j)) (H : post (nI (g 0 + g 1 + g 2))) : wpY_sideOfRow post (fb, ff, fs, fk, fn, gf, gs, kn, wy, bo, so, ho, rr) 0 := by
  unfold wpY_sideOfRow
  dsimp only
  rw [show (3 : Int32) * 0 = nI 0 by decide, show nI 0 + 1 = nI 1 by decide, show nI 0 + 2 = nI 2 by decide]
  refine ⟨vp_in_nI (by omega) (by omega), vp_in_nI (by omega) (by omega), vp_in_nI (by omega) (by omega), ?_⟩
  rw [nI_clamp (by omega), nI_clamp (by omega), nI_clamp (by omega), hS 0 (by omega), hS 1 (by omega), hS 2 (by omega), nI_add, nI_add]
  exact H
theorem ya_r1 {post : Int32 → Prop} {g : Nat → Nat} (hS : ∀ j, j < 6 → rr j = nI (g j)) (H : post (nI (g 3 + g 4 + g 5))) : wpY_sideOfRow post (fb, ff, fs, fk, fn, gf, gs, kn, wy, bo, so, ho, rr) 1 := by
  unfold wpY_sideOfRow
  dsimp only
  rw [show (3 : Int32) * 1 = nI 3 by decide, show nI 3 + 1 = nI 4 by decide, show nI 3 + 2 = nI 5 by decide]
  refine ⟨vp_in_nI (by omega) (by omega), vp_in_nI (by omega) (by omega), vp_in_nI (by omega) (by omega), ?_⟩
  rw [nI_clamp (by omega), nI_clamp (by omega), nI_clamp (by omega), hS 3 (by omega), hS 4 (by omega), hS 5 (by omega), nI_add, nI_add]
  exact H
theorem ya_142 {post : SY → Prop} {g : Nat → Nat} {p r : Nat} (hp : p < 2) (hr7 : r < 7) (hz : g 0 + g 1 + g 2 = 0 ∨ g 3 + g 4 + g 5 = 0) (hS : ya_S g rr gf gs)
    (K : ∀ rr', post (fb, ff, fs, fk, nI (ka_ac (ka_hm g) 6 + 262144 * (if r = 6 then p else 1 - p)), nI (ka_hm g 6), nI (ka_hm g 7), kn, wy, bo, so, ho, rr')) :
    wY_move_142 post (nI p) (nI r) fb ff fs fk fn gf gs kn wy bo so ho rr := by
  have h6 : ka_hm g 6 = g 6 + (g 0 + g 1 + g 2) := by unfold ka_hm; rw [if_pos hz]; rfl
  have h7 : ka_hm g 7 = g 7 + (g 3 + g 4 + g 5) := by unfold ka_hm; rw [if_pos hz]; rfl
  have h0 : ∀ j, j < 6 → ka_hm g j = 0 := fun j hj => by unfold ka_hm; rw [if_pos hz]; exact if_pos hj
  unfold wY_move_142
  refine ya_r0 hS.1 (nm_r (e' := nI (ka_hm g 6)) (by rw [hS.2.1, nI_add, h6]) (ya_r1 hS.1 (nm_r (e' := nI (ka_hm g 7)) (by rw [hS.2.2, nI_add, h7]) ⟨7, ?_⟩)))
  refine ya_173 (fun rr' hr' => ?_) 6 0 7 rr rfl (by omega) (fun j hj => absurd hj (by omega))
  exact ya_194 hp hr7 (f := ka_hm g) (fun j hj => by rw [h0 j hj]; omega) (fun j hj => by rw [h0 j hj]; exact hr' j hj) (K rr')
theorem ya_126 {post : SY → Prop} {g : Nat → Nat} {p r : Nat} (hp : p < 2) (hr7 : r < 7) (hg : ∀ j, j < 6 → g j ≤ 12) (hf : ∀ j, j < 6 → ka_hm g j < 8) (hS : ya_S g rr gf gs)
    (K : ∀ rr', post (fb, ff, fs, fk, nI (ka_ac (ka_hm g) 6 + 262144 * (if r = 6 then p else 1 - p)), nI (ka_hm g 6), nI (ka_hm g 7), kn, wy, bo, so, ho, rr')) :
    wY_move_126 post (nI p) (nI r) fb ff fs fk fn gf gs kn wy bo so ho rr := by
  have g0 := hg 0 (by omega)
  have g1 := hg 1 (by omega)
  have g2 := hg 2 (by omega)
  have g3 := hg 3 (by omega)
  have g4 := hg 4 (by omega)
  have g5 := hg 5 (by omega)
  unfold wY_move_126
  refine ya_r0 hS.1 (pk_eq (g 0 + g 1 + g 2) 0 (fun e => ya_142 hp hr7 (Or.inl e) hS K) (fun e => ya_r1 hS.1 (pk_eq (g 3 + g 4 + g 5) 0 (fun e' => ya_142 hp hr7 (Or.inr e') hS K) (fun e' => ?_))))
  have q : ka_hm g = g := if_neg (by omega)
  rw [q] at hf
  have K' := K rr
  rw [q, ← hS.2.1, ← hS.2.2] at K'
  exact ya_194 hp hr7 hf hS.1 K'
end
