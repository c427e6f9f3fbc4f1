/-! ===== arrays of eight places against the pure board ===== -/
def ka_bs (A B j : Nat) : Nat := if j = 6 then A else if j = 7 then B else 0
theorem ka_bs6 {A B j : Nat} (h : j < 6) : ka_bs A B j = 0 := by
  unfold ka_bs
  rw [if_neg (by omega), if_neg (by omega)]
def ka_A (a : Nat → Int32) (g : Nat → Nat) (A B : Nat) : Prop := ∀ j, j < 8 → a j = nI (g j + ka_bs A B j)
theorem ka_Au {a : Nat → Int32} {g : Nat → Nat} {A B i v : Nat} {x : Int32} (h : ka_A a g A B) (hx : x = nI (v + ka_bs A B i)) : ka_A (upd a i x) (ka_up g i v) A B := by
  intro j hj
  unfold upd ka_up
  by_cases e : j = i
  · subst e
    rw [if_pos rfl, if_pos rfl]
    exact hx
  · rw [if_neg e, if_neg e]
    exact h j hj
theorem ka_A6 {a : Nat → Int32} {g : Nat → Nat} {A B j : Nat} (h : ka_A a g A B) (hj : j < 6) : a j = nI (g j) := by
  have := h j (by omega)
  rw [ka_bs6 hj] at this
  exact this
theorem ka_ups {g : Nat → Nat} {k v : Nat} : ka_up g k v k = v := if_pos rfl
theorem ka_upn {g : Nat → Nat} {k v j : Nat} (h : j ≠ k) : ka_up g k v j = g j := if_neg h
theorem ka_nt8 {p t : Nat} (hp : p < 2) : ka_nt p t = 6 + p ∨ ka_nt p t < 6 := by
  unfold ka_nt
  split
  · exact Or.inl rfl
  · split <;> omega
theorem ka_sw8 {p : Nat} (hp : p < 2) : ∀ n g t, (t = 6 + p ∨ t < 6) → ((ka_sw p n g t).2 = 6 + p ∨ (ka_sw p n g t).2 < 6)
  | 0, _, _, h => h
  | n + 1, g, t, _ => ka_sw8 hp n _ _ (ka_nt8 hp)
theorem ka_swb {p : Nat} : ∀ n g t j, (ka_sw p n g t).1 j ≤ g j + n
  | 0, _, _, _ => Nat.le_refl _
  | n + 1, g, t, j => by
    have := ka_swb (p := p) n (ka_up g (ka_nt p t) (g (ka_nt p t) + 1)) (ka_nt p t) j
    have e : ka_up g (ka_nt p t) (g (ka_nt p t) + 1) j ≤ g j + 1 := by
      unfold ka_up
      split
      · rename_i z
        rw [z]
        exact Nat.le_refl _
      · omega
    simp only [ka_sw]
    omega
theorem ka_s8 {c h : Nat} (hc : ka_ok c) (hh : h < 6) : (ka_s c h).2 = 6 + ka_pl c ∨ (ka_s c h).2 < 6 := ka_sw8 (ka_pl2 hc) _ _ _ (Or.inr hh)
theorem ka_sb {c h : Nat} (hc : ka_ok c) (hh : h < 6) (j : Nat) : (ka_s c h).1 j ≤ 12 := by
  have a := ka_swb (p := ka_pl c) (ka_sd c h) (ka_up (ka_st c) h 0) h j
  have b := ka_sdb hc hh
  have e : ka_up (ka_st c) h 0 j ≤ 6 := by
    unfold ka_up ka_st
    split
    · omega
    · split
      · exact ka_sdb hc (by assumption)
      · omega
  unfold ka_s
  omega
theorem ka_cpb {p t : Nat} {g : Nat → Nat} (hp : p < 2) (hg : ∀ j, g j ≤ 12) {j : Nat} (hj : j < 6) : ka_cp p g t j ≤ 12 := by
  unfold ka_cp
  split
  · unfold ka_up
    split
    · omega
    · split
      · omega
      · split
        · omega
        · exact hg j
  · exact hg j
/-! bringing home, step by step -/
def ka_bm (g : Nat → Nat) : Nat → (Nat → Nat)
  | 0 => g
  | i + 1 => ka_up (ka_up (ka_bm g i) (6 + i / 3) (ka_bm g i (6 + i / 3) + ka_bm g i i)) i 0
theorem ka_bm6 (g : Nat → Nat) {j : Nat} (hj : j < 8) : ka_bm g 6 j = if j < 6 then 0 else if j = 6 then g 6 + (g 0 + g 1 + g 2) else if j = 7 then g 7 + (g 3 + g 4 + g 5) else g j := by
  rcases (by omega : j = 0 ∨ j = 1 ∨ j = 2 ∨ j = 3 ∨ j = 4 ∨ j = 5 ∨ j = 6 ∨ j = 7) with rfl | rfl | rfl | rfl | rfl | rfl | rfl | rfl <;> simp [ka_bm, ka_up] <;> omega
/-! the shifts of the reference -/
theorem ka_shr {c h : Nat} (hc : c < 2 ^ 31) (hh : h < 6) : nI c >>> ((nI 3 * nI h) &&& 31) &&& 7 = nI (ka_sd c h) := by
  have e : 2 ^ (3 * h) = 8 ^ h := by rw [Nat.pow_mul]
  rw [pk_mul, pk_shrN hc _ (3 * h) (s_l _ (by omega)), pk_andN (Nat.lt_of_le_of_lt (Nat.div_le_self _ _) (by omega)) (m := 7) 3 (by decide), e]
  rfl
theorem ka_shl {d h : Nat} (hd : d < 8) (hh : h < 6) : nI d <<< ((nI 3 * nI h) &&& 31) = nI (d * 8 ^ h) := by
  have e : 2 ^ (3 * h) = 8 ^ h := by rw [Nat.pow_mul]
  have b : 8 ^ h ≤ 8 ^ 5 := Nat.pow_le_pow_right (by decide) (by omega)
  rw [pk_mul, pk_shlN _ (3 * h) (s_l _ (by omega)), e]
  rw [e]
  have : d * 8 ^ h ≤ 8 * 8 ^ 5 := Nat.mul_le_mul (by omega) b
  omega
theorem ka_s18 {c : Nat} (hc : c < 2 ^ 31) : nI c >>> ((18 : Int32) &&& 31) = nI (ka_pl c) := pk_shrN hc _ 18 (by decide)
theorem ka_l18 {p : Nat} (hp : p < 2) : nI p <<< ((18 : Int32) &&& 31) = nI (p * 262144) := pk_shlN _ 18 (by decide) (by omega)
theorem nx_or (a b : Nat) : nI a ||| nI b = nI (a ||| b) := by
  apply Int32.toBitVec_inj.mp
  apply BitVec.eq_of_toNat_eq
  show (BitVec.ofNat 32 a ||| BitVec.ofNat 32 b).toNat = (BitVec.ofNat 32 (a ||| b)).toNat
  rw [BitVec.toNat_or, BitVec.toNat_ofNat, BitVec.toNat_ofNat, BitVec.toNat_ofNat, Nat.or_mod_two_pow]
theorem ka_orn {u lo d h : Nat} (hl : lo < 8 ^ h) (hd : d < 8) (hh : h < 6) : (lo + 262144 * u) ||| (d * 8 ^ h) = lo + d * 8 ^ h + 262144 * u := by
  have e : 2 ^ (3 * h) = 8 ^ h := by rw [Nat.pow_mul]
  have b : 8 ^ h ≤ 8 ^ 5 := Nat.pow_le_pow_right (by decide) (by omega)
  have m : d * 8 ^ h ≤ 7 * 8 ^ h := Nat.mul_le_mul_right _ (by omega)
  have x1 : 2 ^ 18 * u + lo = 2 ^ 18 * u ||| lo := Nat.two_pow_add_eq_or_of_lt (by omega) u
  have x2 : 2 ^ (3 * h) * d + lo = 2 ^ (3 * h) * d ||| lo := Nat.two_pow_add_eq_or_of_lt (by rw [e]; exact hl) d
  have x3 : 2 ^ 18 * u + (2 ^ (3 * h) * d + lo) = 2 ^ 18 * u ||| (2 ^ (3 * h) * d + lo) := Nat.two_pow_add_eq_or_of_lt (by rw [e, Nat.mul_comm]; omega) u
  rw [show lo + 262144 * u = 2 ^ 18 * u + lo by omega, x1, Nat.or_assoc, Nat.or_comm lo, show d * 8 ^ h = 2 ^ (3 * h) * d by rw [e, Nat.mul_comm], ← x2, ← x3]
  omega
/-! put and turn on the reference's code -/
def ka_pc (c h n : Nat) : Nat := c - ka_sd c h * 8 ^ h + n * 8 ^ h
theorem ka_pcQ : ka_LL.all (fun l => (List.range 6).all (fun h => (List.range 7).all (fun n => decide ((l &&& (4294967295 - 7 * 8 ^ h)) ||| (n * 8 ^ h) = ka_pc l h n))) && (List.range 6).all (fun h => (List.range 7).all (fun n => decide (((l + 262144) &&& (4294967295 - 7 * 8 ^ h)) ||| (n * 8 ^ h) = ka_pc (l + 262144) h n)))) = true := by decide +kernel
theorem ka_msk : ∀ h, h < 6 → ((nI 7 <<< ((nI 3 * nI h) &&& 31)) ^^^ (-1)) = nI (4294967295 - 7 * 8 ^ h) := by decide +kernel
theorem ka_put {c h n : Nat} (hc : ka_ok c) (hh : h < 6) (hn : n < 7) : (nI c &&& ((nI 7 <<< ((nI 3 * nI h) &&& 31)) ^^^ (-1))) ||| (nI n <<< ((nI 3 * nI h) &&& 31)) = nI (ka_pc c h n) := by
  have a := ka_all (P := fun c => (List.range 6).all (fun h => (List.range 7).all (fun n => decide ((c &&& (4294967295 - 7 * 8 ^ h)) ||| (n * 8 ^ h) = ka_pc c h n)))) ka_pcQ hc
  have b := of_decide_eq_true (List.all_eq_true.mp (List.all_eq_true.mp a h (List.mem_range.mpr hh)) n (List.mem_range.mpr hn))
  rw [ka_msk h hh, nx_and, ka_shl (by omega) hh, nx_or, b]
theorem ka_pcd {c h n : Nat} (hh : h < 6) (hn : n < 7) : (∀ j, j < 6 → ka_sd (ka_pc c h n) j = if j = h then n else ka_sd c j) ∧ ka_pl (ka_pc c h n) = ka_pl c := by
  have e := ka_cde c
  have b0 := ka_sd8 c 0
  have b1 := ka_sd8 c 1
  have b2 := ka_sd8 c 2
  have b3 := ka_sd8 c 3
  have b4 := ka_sd8 c 4
  have b5 := ka_sd8 c 5
  have z : ka_pc c h n = (if 0 = h then n else ka_sd c 0) + 8 * (if 1 = h then n else ka_sd c 1) + 64 * (if 2 = h then n else ka_sd c 2) + 512 * (if 3 = h then n else ka_sd c 3) + 4096 * (if 4 = h then n else ka_sd c 4) + 32768 * (if 5 = h then n else ka_sd c 5) + 262144 * ka_pl c := by
    unfold ka_pc
    rcases (by omega : h = 0 ∨ h = 1 ∨ h = 2 ∨ h = 3 ∨ h = 4 ∨ h = 5) with rfl | rfl | rfl | rfl | rfl | rfl <;> simp <;> omega
  obtain ⟨a0, a1, a2, a3, a4, a5, a6⟩ := ka_dg (by split <;> omega) (by split <;> omega) (by split <;> omega) (by split <;> omega) (by split <;> omega) (by split <;> omega) z
  exact ⟨fun j hj => ka_6 (P := fun j => ka_sd (ka_pc c h n) j = if j = h then n else ka_sd c j) a0 a1 a2 a3 a4 a5 hj, a6⟩
def ka_tc (c p : Nat) : Nat := c % 262144 + p * 262144
theorem ka_trn {c p : Nat} (hc : c < 2 ^ 31) (hp : p < 2) : (nI c &&& 262143) ||| (nI p <<< ((18 : Int32) &&& 31)) = nI (ka_tc c p) := by
  have x : 2 ^ 18 * p + c % 2 ^ 18 = 2 ^ 18 * p ||| c % 2 ^ 18 := Nat.two_pow_add_eq_or_of_lt (Nat.mod_lt _ (by decide)) p
  rw [pk_andN (by omega) (m := 262143) 18 (by decide), ka_l18 hp, nx_or]
  unfold ka_tc
  rw [Nat.or_comm, show p * 262144 = 2 ^ 18 * p by omega, ← x]
  exact congrArg nI (by omega)
theorem ka_tcd {c p : Nat} : (∀ j, j < 6 → ka_sd (ka_tc c p) j = ka_sd c j) ∧ ka_pl (ka_tc c p) = p := by
  refine ⟨fun j hj => ?_, ?_⟩
  · refine ka_6 (P := fun j => ka_sd (ka_tc c p) j = ka_sd c j) ?_ ?_ ?_ ?_ ?_ ?_ hj <;> (simp only [ka_sd, ka_tc, Nat.reducePow, Nat.pow_zero, Nat.div_one, Nat.pow_one]; omega)
  · unfold ka_pl ka_tc
    omega
