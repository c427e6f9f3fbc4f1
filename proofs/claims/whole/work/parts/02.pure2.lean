theorem ka_D4 : ka_LL.map (fun l => ka_Y (l + 262144)) = (List.range 924).map (fun i => 2 * i + 1) := by decide +kernel
/-! the component's way back from a number to a layout -/
def ka_tp (h left : Nat) : Nat → Nat
  | 0 => 0
  | s + 1 => if ka_LB (h * 7 + (s + 1)) ≤ left then s + 1 else ka_tp h left s
def ka_lf (n : Nat) : Nat → Nat
  | 0 => n
  | i + 1 => ka_lf n i - ka_LB ((5 - i) * 7 + ka_tp (5 - i) (ka_lf n i) 6)
def ka_pm (n h : Nat) : Nat := ka_tp h (ka_lf n (5 - h)) 6
def ka_ly (n : Nat) : Nat := ka_pm n 0 + 8 * (ka_pm n 1 - ka_pm n 0) + 64 * (ka_pm n 2 - ka_pm n 1) + 512 * (ka_pm n 3 - ka_pm n 2) + 4096 * (ka_pm n 4 - ka_pm n 3) + 32768 * (ka_pm n 5 - ka_pm n 4)
def ka_lq (n : Nat) : Bool := decide (ka_pm n 0 ≤ ka_pm n 1 ∧ ka_pm n 1 ≤ ka_pm n 2 ∧ ka_pm n 2 ≤ ka_pm n 3 ∧ ka_pm n 3 ≤ ka_pm n 4 ∧ ka_pm n 4 ≤ ka_pm n 5 ∧ ka_pm n 5 ≤ 6 ∧ ka_X (ka_ly n) = n ∧ ka_X (ka_ly n + 262144) = n)
theorem ka_D5 : (List.range 924).all ka_lq = true := by decide +kernel
theorem ka_D6 : ka_LL.all (fun l => decide (ka_ly (ka_X l) = l ∧ ka_X (l + 262144) = ka_X l)) = true := by decide +kernel
theorem ka_LB0 : ∀ h, h < 6 → ka_LB (h * 7) = 0 := by decide +kernel
theorem ka_LBs : ∀ h, h < 6 → ∀ s, s < 6 → ka_LB (h * 7 + (s + 1)) = ka_LB (h * 7 + s) + (if h = 0 then 1 else ka_LB (h * 7 + (s + 1) - 7)) := by decide +kernel
theorem ka_LBb : ∀ h, h < 6 → ∀ s, s < 7 → ka_LB (h * 7 + s) < 924 := by decide +kernel
theorem ka_rob : ∀ s, s < 7 → ∀ i, i < 6 → ka_ro s i ≤ 462 := by decide +kernel
theorem ka_psa : ∀ p, p < 2 → ∀ a, a < 7 → ∀ b, b < 7 → a + b ≤ 6 → ka_ps p a b ≤ 25 ∧ ka_ps (1 - p) a b ≤ ka_ps p a b + 11 := by decide +kernel
theorem ka_psQ : (List.range 2).all (fun p => (List.range 7).all (fun a => (List.range 7).all (fun b => (List.range 7).all (fun x => decide ((a + b ≤ 6 → x + b ≤ 6 → ka_ps p x b ≤ ka_ps p a b + 11) ∧ (a + b ≤ 6 → a + x ≤ 6 → ka_ps p a x ≤ ka_ps p a b + 11)))))) = true := by decide +kernel
theorem ka_psb {p a b x : Nat} (hp : p < 2) (ha : a < 7) (hb : b < 7) (hx : x < 7) : (a + b ≤ 6 → x + b ≤ 6 → ka_ps p x b ≤ ka_ps p a b + 11) ∧ (a + b ≤ 6 → a + x ≤ 6 → ka_ps p a x ≤ ka_ps p a b + 11) :=
  of_decide_eq_true (List.all_eq_true.mp (List.all_eq_true.mp (List.all_eq_true.mp (List.all_eq_true.mp ka_psQ p (List.mem_range.mpr hp)) a (List.mem_range.mpr ha)) b (List.mem_range.mpr hb)) x (List.mem_range.mpr hx))
theorem ka_tpb (h left : Nat) : ∀ s, ka_tp h left s ≤ s
  | 0 => Nat.le_refl _
  | s + 1 => by
    have := ka_tpb h left s
    simp only [ka_tp]
    split <;> omega
theorem ka_tpl {h left : Nat} (hh : h < 6) : ∀ s, ka_LB (h * 7 + ka_tp h left s) ≤ left
  | 0 => by
    have := ka_LB0 h hh
    simp only [ka_tp, Nat.add_zero]
    omega
  | s + 1 => by
    have := ka_tpl (left := left) hh s
    simp only [ka_tp]
    split
    · assumption
    · exact this
/-! digits -/
theorem ka_dg {a b c d e f p : Nat} (ha : a < 8) (hb : b < 8) (hc : c < 8) (hd : d < 8) (he : e < 8) (hf : f < 8) {z : Nat} (hz : z = a + 8 * b + 64 * c + 512 * d + 4096 * e + 32768 * f + 262144 * p) :
    ka_sd z 0 = a ∧ ka_sd z 1 = b ∧ ka_sd z 2 = c ∧ ka_sd z 3 = d ∧ ka_sd z 4 = e ∧ ka_sd z 5 = f ∧ ka_pl z = p := by
  subst hz
  simp only [ka_sd, ka_pl, Nat.reducePow, Nat.pow_zero, Nat.div_one, Nat.pow_one]
  refine ⟨by omega, by omega, by omega, by omega, by omega, by omega, by omega⟩
theorem ka_6 {P : Nat → Prop} (h0 : P 0) (h1 : P 1) (h2 : P 2) (h3 : P 3) (h4 : P 4) (h5 : P 5) {i : Nat} (hi : i < 6) : P i := by
  rcases (by omega : i = 0 ∨ i = 1 ∨ i = 2 ∨ i = 3 ∨ i = 4 ∨ i = 5) with rfl | rfl | rfl | rfl | rfl | rfl <;> assumption
theorem ka_sd8 (c h : Nat) : ka_sd c h < 8 := Nat.mod_lt _ (by decide)
theorem ka_pl2 {c : Nat} (h : ka_ok c) : ka_pl c < 2 := by
  have := h.1
  unfold ka_pl
  omega
theorem ka_cde (c : Nat) : c = ka_sd c 0 + 8 * ka_sd c 1 + 64 * ka_sd c 2 + 512 * ka_sd c 3 + 4096 * ka_sd c 4 + 32768 * ka_sd c 5 + 262144 * ka_pl c := by
  simp only [ka_sd, ka_pl, Nat.reducePow, Nat.pow_zero, Nat.div_one, Nat.pow_one]
  omega
theorem ka_mvI {c h : Nat} : ka_mv c h = true ↔ h / 3 = ka_pl c ∧ 0 < ka_sd c h ∧ ka_over c = false := by
  simp [ka_mv]
theorem ka_ovI {c : Nat} : ka_over c = true ↔ ka_s0 c = 0 ∨ ka_s1 c = 0 := by
  simp [ka_over]
theorem ka_ovF {c : Nat} : ka_over c = false ↔ ka_s0 c ≠ 0 ∧ ka_s1 c ≠ 0 := by
  simp [ka_over]
theorem ka_sdb {c : Nat} (hc : ka_ok c) {h : Nat} (hh : h < 6) : ka_sd c h ≤ 6 := by
  have := hc.2
  simp only [ka_s0, ka_s1] at this
  exact ka_6 (P := fun h => ka_sd c h ≤ 6) (by omega) (by omega) (by omega) (by omega) (by omega) (by omega) hh
theorem ka_np2 {c : Nat} (hc : ka_ok c) (h : Nat) : ka_np c h < 2 := by
  have := ka_pl2 hc
  unfold ka_np
  split <;> omega
theorem ka_step {c h : Nat} (hc : ka_ok c) (hh : h < 6) (hm : ka_mv c h = true) :
    ka_fin c h 0 + ka_fin c h 1 + ka_fin c h 2 + ka_fin c h 3 + ka_fin c h 4 + ka_fin c h 5 + ka_fin c h 6 + ka_fin c h 7 = ka_s0 c + ka_s1 c ∧ ka_ln (ka_nx c h) < ka_ln c ∧ ka_X (ka_nx c h) < ka_X c ∧ 6 * ka_fin c h 7 + ka_po (ka_nx c h) ≤ ka_po c + 11 := by
  have a := List.all_eq_true.mp (ka_all (P := fun c => (List.range 6).all (ka_q c)) ka_D1 hc) h (List.mem_range.mpr hh)
  simpa [ka_q, hm] using a
theorem ka_dn {c h : Nat} (hc : ka_ok c) (hh : h < 6) (hm : ka_mv c h = true) :
    ka_sd (ka_nx c h) 0 = ka_fin c h 0 ∧ ka_sd (ka_nx c h) 1 = ka_fin c h 1 ∧ ka_sd (ka_nx c h) 2 = ka_fin c h 2 ∧ ka_sd (ka_nx c h) 3 = ka_fin c h 3 ∧ ka_sd (ka_nx c h) 4 = ka_fin c h 4 ∧ ka_sd (ka_nx c h) 5 = ka_fin c h 5 ∧ ka_pl (ka_nx c h) = ka_np c h := by
  have a := (ka_step hc hh hm).1
  have b := hc.2
  exact ka_dg (by omega) (by omega) (by omega) (by omega) (by omega) (by omega) rfl
theorem ka_dj {c h : Nat} (hc : ka_ok c) (hh : h < 6) (hm : ka_mv c h = true) {j : Nat} (hj : j < 6) : ka_sd (ka_nx c h) j = ka_fin c h j := by
  obtain ⟨a, b, d, e, f, g, -⟩ := ka_dn hc hh hm
  exact ka_6 (P := fun j => ka_sd (ka_nx c h) j = ka_fin c h j) a b d e f g hj
theorem ka_okn {c h : Nat} (hc : ka_ok c) (hh : h < 6) (hm : ka_mv c h = true) : ka_ok (ka_nx c h) := by
  obtain ⟨a, b, d, e, f, g, i⟩ := ka_dn hc hh hm
  have s := (ka_step hc hh hm).1
  have b6 := hc.2
  have n2 := ka_np2 hc h
  have q := ka_cde (ka_nx c h)
  refine ⟨?_, ?_⟩
  · have := ka_sd8 (ka_nx c h) 0
    have := ka_sd8 (ka_nx c h) 1
    have := ka_sd8 (ka_nx c h) 2
    have := ka_sd8 (ka_nx c h) 3
    have := ka_sd8 (ka_nx c h) 4
    have := ka_sd8 (ka_nx c h) 5
    omega
  · simp only [ka_s0, ka_s1] at *
    omega
theorem ka_sn {c h : Nat} (hc : ka_ok c) (hh : h < 6) (hm : ka_mv c h = true) : ka_fin c h 6 + ka_fin c h 7 + (ka_s0 (ka_nx c h) + ka_s1 (ka_nx c h)) = ka_s0 c + ka_s1 c := by
  obtain ⟨a, b, d, e, f, g, i⟩ := ka_dn hc hh hm
  have s := (ka_step hc hh hm).1
  simp only [ka_s0, ka_s1] at *
  omega
theorem ka_X924 {c : Nat} (hc : ka_ok c) : ka_X c < 924 ∧ ka_ln c ≤ 11 := by
  have a := ka_all (P := fun c => decide (ka_X c < 924) && decide (ka_ln c ≤ 11)) ka_D2 hc
  simpa using a
theorem ka_Yi {l : Nat} (hl : l ∈ ka_LL) : ∃ i, i < 924 ∧ ka_LL[i]? = some l ∧ ka_Y l = 2 * i ∧ ka_Y (l + 262144) = 2 * i + 1 := by
  obtain ⟨i, hi, e⟩ := List.getElem_of_mem hl
  have e' : ka_LL[i]? = some l := by rw [List.getElem?_eq_getElem hi, e]
  have hi' : i < 924 := by
    have := congrArg List.length ka_D3
    simp only [List.length_map, List.length_range] at this
    omega
  have a := congrArg (fun z => z[i]?) ka_D3
  have b := congrArg (fun z => z[i]?) ka_D4
  simp only [List.getElem?_map, e', List.getElem?_range hi', Option.map_some, Option.some.injEq] at a b
  exact ⟨i, hi', e', a, b⟩
theorem ka_Yb {c : Nat} (hc : ka_ok c) : ka_Y c < 1848 := by
  obtain ⟨l, p, hl, hp, rfl⟩ := ka_inL hc
  obtain ⟨i, hi, -, a, b⟩ := ka_Yi hl
  rcases (by omega : p = 0 ∨ p = 1) with rfl | rfl
  · rw [Nat.mul_zero, Nat.add_zero, a]; omega
  · rw [Nat.mul_one, b]; omega
theorem ka_Yj {c d : Nat} (hc : ka_ok c) (hd : ka_ok d) (h : ka_Y c = ka_Y d) : c = d := by
  obtain ⟨l, p, hl, hp, rfl⟩ := ka_inL hc
  obtain ⟨m, q, hm, hq, rfl⟩ := ka_inL hd
  obtain ⟨i, hi, x, a, b⟩ := ka_Yi hl
  obtain ⟨j, hj, y, e, f⟩ := ka_Yi hm
  have key : i = j ∧ p = q := by
    rcases (by omega : p = 0 ∨ p = 1) with rfl | rfl <;> rcases (by omega : q = 0 ∨ q = 1) with rfl | rfl <;>
      simp only [Nat.mul_zero, Nat.add_zero, Nat.mul_one] at h <;> omega
  obtain ⟨rfl, rfl⟩ := key
  rw [x] at y
  cases y
  rfl
theorem ka_lyq {n : Nat} (hn : n < 924) : ka_pm n 0 ≤ ka_pm n 1 ∧ ka_pm n 1 ≤ ka_pm n 2 ∧ ka_pm n 2 ≤ ka_pm n 3 ∧ ka_pm n 3 ≤ ka_pm n 4 ∧ ka_pm n 4 ≤ ka_pm n 5 ∧ ka_pm n 5 ≤ 6 ∧ ka_X (ka_ly n) = n ∧ ka_X (ka_ly n + 262144) = n :=
  of_decide_eq_true (List.all_eq_true.mp ka_D5 n (List.mem_range.mpr hn))
theorem ka_lyd {n p : Nat} (hn : n < 924) (hp : p < 2) : ka_sd (ka_ly n + 262144 * p) 0 = ka_pm n 0 ∧ ka_sd (ka_ly n + 262144 * p) 1 = ka_pm n 1 - ka_pm n 0 ∧ ka_sd (ka_ly n + 262144 * p) 2 = ka_pm n 2 - ka_pm n 1 ∧ ka_sd (ka_ly n + 262144 * p) 3 = ka_pm n 3 - ka_pm n 2 ∧ ka_sd (ka_ly n + 262144 * p) 4 = ka_pm n 4 - ka_pm n 3 ∧ ka_sd (ka_ly n + 262144 * p) 5 = ka_pm n 5 - ka_pm n 4 ∧ ka_pl (ka_ly n + 262144 * p) = p := by
  obtain ⟨a, b, c, d, e, f, -, -⟩ := ka_lyq hn
  exact ka_dg (by omega) (by omega) (by omega) (by omega) (by omega) (by omega) rfl
theorem ka_lyo {n p : Nat} (hn : n < 924) (hp : p < 2) : ka_ok (ka_ly n + 262144 * p) ∧ ka_X (ka_ly n + 262144 * p) = n := by
  obtain ⟨a, b, c, d, e, f, x, y⟩ := ka_lyq hn
  obtain ⟨d0, d1, d2, d3, d4, d5, d6⟩ := ka_lyd hn hp
  refine ⟨⟨?_, ?_⟩, ?_⟩
  · unfold ka_ly
    omega
  · simp only [ka_s0, ka_s1]
    omega
  · rcases (by omega : p = 0 ∨ p = 1) with rfl | rfl
    · rw [Nat.mul_zero, Nat.add_zero]; exact x
    · rw [Nat.mul_one]; exact y
theorem ka_lyX {c : Nat} (hc : ka_ok c) : ka_ly (ka_X c) + 262144 * ka_pl c = c := by
  obtain ⟨l, p, hl, hp, rfl⟩ := ka_inL hc
  have a := of_decide_eq_true (List.all_eq_true.mp ka_D6 l hl)
  have e : ka_X (l + 262144 * p) = ka_X l := by
    rcases (by omega : p = 0 ∨ p = 1) with rfl | rfl
    · rfl
    · exact a.2
  have l1 : ka_X l < 924 := by
    rw [← e]
    exact (ka_X924 hc).1
  have q := (ka_lyd l1 hp).2.2.2.2.2.2
  rw [a.1] at q
  rw [e, a.1, q]
