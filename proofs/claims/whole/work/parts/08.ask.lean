section
variable {K A B BX BY : Nat → Nat} {h h2 : Nat → Bool} {v v2 : Nat → Nat} {f1 f2 f3 f4 f5 f6 f7 f8 g1 g2 g3 g4 g5 g6 g7 g8 : Nat → Int32}
/-! the two second parts agree where they play a role -/
def zs_Ag (K BX BY : Nat → Nat) : Prop := ∀ s, (K s = 1 ∨ K s = 5 ∨ K s = 7) ∨ BX s = BY s
theorem zs_sm {k a b c s n t m : Nat} (e : (k = 1 ∨ k = 5 ∨ k = 7) ∨ b = c) : zs_nd k a b s n t m = zs_nd k a c s n t m ∧ (∀ v, zs_rl k a b n v = zs_rl k a c n v) ∧ (∀ v, zs_vl k a b s n v = zs_vl k a c s n v) := by
  rcases e with (rfl | rfl | rfl) | rfl
  · exact ⟨rfl, fun _ => rfl, fun _ => rfl⟩
  · exact ⟨rfl, fun _ => rfl, fun _ => rfl⟩
  · exact ⟨rfl, fun _ => rfl, fun _ => rfl⟩
  · exact ⟨rfl, fun _ => rfl, fun _ => rfl⟩
theorem zs_smN (e : zs_Ag K BX BY) : zs_need K A BX = zs_need K A BY := by
  funext p q
  exact (zs_sm (e (p / 16))).1
theorem zs_smR (e : zs_Ag K BX BY) : zs_rul K A BX = zs_rul K A BY := by
  funext v p
  exact (zs_sm (t := 0) (m := 0) (s := 0) (e (p / 16))).2.1 v
theorem zs_smV (e : zs_Ag K BX BY) : zs_val K A BX = zs_val K A BY := by
  funext v p
  exact (zs_sm (t := 0) (m := 0) (e (p / 16))).2.2 v
theorem zs_smL (e : zs_Ag K BX BY) (L : zs_Lf K A BY h v) : zs_Lf K A BX h v := by
  unfold zs_Lf zs_Cl zs_Bel zs_Cl zs_All at *
  rw [zs_smN e, zs_smR e, zs_smV e]
  exact L
theorem zs_smLn {p : Nat} {R : Nat → Bool} (e : zs_Ag K BX BY) (L : zs_nL K A BY p R) : zs_nL K A BX p R := by
  unfold zs_nL zs_nB zs_nC at *
  rw [zs_smN e]
  exact L
def zs_Eq (h : Nat → Bool) (v : Nat → Nat) (h2 : Nat → Bool) (v2 : Nat → Nat) : Prop := ∀ p, p < 128 → h p = h2 p ∧ (h p = true → v p = v2 p)
theorem zy_q {post : SY → Prop} (GY : zs_Gd K A BY) (Ag : zs_Ag K BX BY) (L : zs_Lf K A BX h v) (hv : ∀ q, v2 q < 97) (P : ∀ h2 v2 f7 f8, zs_Eq h v h2 v2 → (∀ q, v2 q < 97) → post (zs_N K, zs_N A, zs_N BY, zs_B h2, zs_N v2, f6, f7, f8)) : wpY_workOut post (zs_N K, zs_N A, zs_N BY, zs_B h2, zs_N v2, f6, f7, f8) :=
  zy_work GY hv fun h2 v2 f7 f8 hv2 L2 => P h2 v2 f7 f8 (zs_uni L (zs_smL Ag L2)) hv2
/-! good numbers -/
theorem zs_not0 {x : Int32} {n : Nat} (hn : n < 2 ^ 31) (h : nI n ≤ x) : ¬ x < 0 := Int32.not_lt.mpr (Int32.le_trans (nI_pos' hn) h)
theorem zx_isT {post : Int32 → Prop} {s : Nat} (hs : s < 8) (P : post 1) : wpX_isSeries post (nI s) :=
  br_f (nI_pos (by omega)) (pk_le 8 s (fun e => absurd e (by omega)) (fun _ => P))
theorem zx_isF {post : Int32 → Prop} {x : Int32} (hx : x < 0 ∨ nI 8 ≤ x) (P : post 0) : wpX_isSeries post x := by
  rcases hx with c | c
  · exact br_t c P
  · exact br_f (zs_not0 (by decide) c) (br_t c P)
theorem zy_bdF {post : Int32 → Prop} {s : Nat} (hs : s < 8) (P : post 0) : wpY_bad post (f1, f2, f3, f4, f5, f6, f7, f8) (nI s) :=
  br_f (nI_pos (by omega)) (pk_le s 7 (fun _ => P) (fun e => absurd e (by omega)))
theorem zy_bdT {post : Int32 → Prop} {x : Int32} (hx : x < 0 ∨ nI 8 ≤ x) (P : post 1) : wpY_bad post (f1, f2, f3, f4, f5, f6, f7, f8) x := by
  rcases hx with c | c
  · exact br_t c P
  · refine br_f (zs_not0 (by decide) c) (br_f (fun z => ?_) P)
    have := Int32.le_trans c z
    exact absurd this (by decide)
theorem zs_ser (x : Int32) : (x < 0 ∨ nI 8 ≤ x) ∨ ∃ s : Nat, s < 8 ∧ x = nI s := by
  rcases pk_ix x (n := 8) (by decide) with c | c | c
  · exact Or.inl (Or.inl c)
  · exact Or.inl (Or.inr c)
  · exact Or.inr c
/-! values in front -/
def zs_fr (h : Nat → Bool) (s : Nat) : Nat → Nat → Nat
  | 0 => fun i => i
  | d + 1 => fun i => if h (16 * s + i) = true then zs_fr h s d (i + 1) else i
theorem zs_fr_p (h : Nat → Bool) (s : Nat) : ∀ d i, i ≤ zs_fr h s d i ∧ zs_fr h s d i ≤ i + d ∧ (∀ j, i ≤ j → j < zs_fr h s d i → h (16 * s + j) = true) ∧ (zs_fr h s d i < i + d → h (16 * s + zs_fr h s d i) = false) := by
  intro d
  induction d with
  | zero =>
    intro i
    refine ⟨Nat.le_refl i, Nat.le_refl i, fun j a b => ?_, fun a => ?_⟩
    · have b' : j < i := b
      omega
    · have a' : i < i + 0 := a
      omega
  | succ d ih =>
    intro i
    show i ≤ (if h (16 * s + i) = true then zs_fr h s d (i + 1) else i) ∧ (if h (16 * s + i) = true then zs_fr h s d (i + 1) else i) ≤ i + (d + 1) ∧ (∀ j, i ≤ j → j < (if h (16 * s + i) = true then zs_fr h s d (i + 1) else i) → h (16 * s + j) = true) ∧ ((if h (16 * s + i) = true then zs_fr h s d (i + 1) else i) < i + (d + 1) → h (16 * s + (if h (16 * s + i) = true then zs_fr h s d (i + 1) else i)) = false)
    by_cases c : h (16 * s + i) = true
    · rw [if_pos c]
      obtain ⟨a1, a2, a3, a4⟩ := ih (i + 1)
      refine ⟨by omega, by omega, fun j x y => ?_, fun x => a4 (by omega)⟩
      by_cases z : j = i
      · rw [z]; exact c
      · exact a3 j (by omega) y
    · rw [if_neg c]
      refine ⟨Nat.le_refl i, by omega, fun j x y => absurd y (by omega), fun _ => ?_⟩
      cases e : h (16 * s + i) with
      | false => rfl
      | true => exact absurd e c
theorem zs_fr_e {s : Nat} (hs : s < 8) (E : ∀ p, p < 128 → h p = h2 p) : ∀ d i, i + d = 16 → zs_fr h s d i = zs_fr h2 s d i := by
  intro d
  induction d with
  | zero => intro i _; rfl
  | succ d ih =>
    intro i hi
    show (if h (16 * s + i) = true then zs_fr h s d (i + 1) else i) = (if h2 (16 * s + i) = true then zs_fr h2 s d (i + 1) else i)
    rw [E (16 * s + i) (by omega), ih (i + 1) (by omega)]
theorem zx_vifL {post : Int32 → Prop} {s : Nat} (hs : s < 8) : ∀ d i, i + d = 16 → post (nI (zs_fr h s d i)) → wX_valuesInFront_2 post (nI s) f1 f2 f3 (zs_B h) f5 f6 f7 f8 (d + 1) (nI i) := by
  intro d
  induction d with
  | zero =>
    intro i hi P
    have e : i = 16 := by omega
    subst e
    exact pk_le 16 16 (fun _ => P) (fun e => absurd e (by omega))
  | succ d ih =>
    intro i hi P
    have P' : post (nI (if h (16 * s + i) = true then zs_fr h s d (i + 1) else i)) := P
    have ex : 16 * nI s + nI i = nI (16 * s + i) := zs_ix rfl
    refine pk_le 16 i (fun e => absurd e (by omega)) (fun _ => ⟨pk_in _ 128 (by omega) ex, ?_⟩)
    cases hh : h (16 * s + i) with
    | false =>
      rw [hh, if_neg (by decide)] at P'
      exact br_t (zs_hF ex (by omega) hh) P'
    | true =>
      rw [hh, if_pos rfl] at P'
      exact br_f (zs_hT ex (by omega) hh) (nm_r (nI_1 i) (ih (i + 1) (by omega) P'))
theorem zx_vif {post : Int32 → Prop} {s : Nat} (hs : s < 8) (P : post (nI (zs_fr h s 16 0))) : wpX_valuesInFront post (f1, f2, f3, zs_B h, f5, f6, f7, f8) (nI s) := ⟨17, zx_vifL hs 16 0 rfl P⟩
theorem zy_knownL {post : Int32 → SY → Prop} {s : Nat} (hs : s < 8) : ∀ d i, i + d = 16 → post (nI (zs_fr h s d i)) (f1, f2, f3, zs_B h, f5, f6, f7, f8) → wY_known_16 post (nI s) f1 f2 f3 (zs_B h) f5 f6 f7 f8 (d + 1) (nI i) := by
  intro d
  induction d with
  | zero =>
    intro i hi P
    exact pk_le 16 i (fun _ => P) (fun e => absurd e (by omega))
  | succ d ih =>
    intro i hi P
    have P' : post (nI (if h (16 * s + i) = true then zs_fr h s d (i + 1) else i)) (f1, f2, f3, zs_B h, f5, f6, f7, f8) := P
    have ex : 16 * nI s + nI i = nI (16 * s + i) := zs_ix rfl
    refine pk_le 16 i (fun e => absurd e (by omega)) (fun _ => ⟨pk_in _ 128 (by omega) ex, ?_⟩)
    cases hh : h (16 * s + i) with
    | false =>
      rw [hh, if_neg (by decide)] at P'
      exact br_t (zs_hF ex (by omega) hh) P'
    | true =>
      rw [hh, if_pos rfl] at P'
      exact br_f (zs_hT ex (by omega) hh) (nm_r (nI_1 i) (ih (i + 1) (by omega) P'))
/-! lockstep: valued, order, agreeing, sum -/
theorem zs_Eh {p : Nat} {c : Bool} (E : zs_Eq h v h2 v2) (hh : h p = c) (hp : p < 128) : h2 p = c := (E p hp).1.symm.trans hh
theorem zs_Ev {p : Nat} (E : zs_Eq h v h2 v2) (hh : h p = true) (hp : p < 128) : v2 p = v p := ((E p hp).2 hh).symm
theorem zs_lval {s : Nat} (hs : s < 8) : ∀ d i, i + d = 16 → ∀ x : Int32, ∃ r : Int32, (∀ post : Int32 → Prop, post r → wX_valued_13 post (nI s) f1 f2 f3 (zs_B h) (zs_N v) f6 f7 f8 (d + 1) x (nI i)) ∧ (∀ (h2 : Nat → Bool) (v2 : Nat → Nat) (g7 g8 : Nat → Int32), zs_Eq h v h2 v2 → ∀ post : Int32 → SY → Prop, post r (g1, g2, g3, zs_B h2, zs_N v2, g6, g7, g8) → wY_valued_18 post (nI s) g1 g2 g3 (zs_B h2) (zs_N v2) g6 g7 g8 (d + 1) x (nI i)) := by
  intro d
  induction d with
  | zero =>
    intro i hi x
    exact ⟨x, fun _ P => pk_le 16 i (fun _ => P) (fun e => absurd e (by omega)), fun h2 v2 g7 g8 E _ P => pk_le 16 i (fun _ => P) (fun e => absurd e (by omega))⟩
  | succ d ih =>
    intro i hi x
    have ex : 16 * nI s + nI i = nI (16 * s + i) := zs_ix rfl
    have vi : vp_in (16 * nI s + nI i) 128 := pk_in _ 128 (by omega) ex
    cases hh : h (16 * s + i) with
    | false =>
      obtain ⟨r, hX, hY⟩ := ih (i + 1) (by omega) x
      exact ⟨r, fun post P => pk_le 16 i (fun e => absurd e (by omega)) (fun _ => ⟨vi, br_t (zs_hF ex (by omega) hh) (nm_r (nI_1 i) (hX post P))⟩), fun h2 v2 g7 g8 E post P => pk_le 16 i (fun e => absurd e (by omega)) (fun _ => ⟨vi, br_t (zs_hF ex (by omega) (zs_Eh E hh (by omega))) (nm_r (nI_1 i) (hY h2 v2 g7 g8 E post P))⟩)⟩
    | true =>
      obtain ⟨r, hX, hY⟩ := ih (i + 1) (by omega) (x + 1)
      exact ⟨r, fun post P => pk_le 16 i (fun e => absurd e (by omega)) (fun _ => ⟨vi, br_f (zs_hT ex (by omega) hh) (nm_e (nm_r (nI_1 i) (hX post P)))⟩), fun h2 v2 g7 g8 E post P => pk_le 16 i (fun e => absurd e (by omega)) (fun _ => ⟨vi, br_f (zs_hT ex (by omega) (zs_Eh E hh (by omega))) (nm_e (nm_r (nI_1 i) (hY h2 v2 g7 g8 E post P)))⟩)⟩
theorem zs_lord {s U : Nat} (hs : s < 8) (hv : ∀ q, v q < 97) (hU : U ≤ 16) (hU1 : ∀ j, j < U → h (16 * s + j) = true) (hU2 : U < 16 → h (16 * s + U) = false) : ∀ d i, i + d = 16 → i ≤ U → ∃ r : Int32, (∀ post : Int32 → Prop, post r → wX_order_17 post (nI s) (nI U) f1 f2 f3 (zs_B h) (zs_N v) f6 f7 f8 (d + 1) (nI i)) ∧ (∀ (h2 : Nat → Bool) (v2 : Nat → Nat) (g7 g8 : Nat → Int32), zs_Eq h v h2 v2 → ∀ post : Int32 → SY → Prop, post r (g1, g2, g3, zs_B h2, zs_N v2, g6, g7, g8) → wY_order_16 post (nI s) g1 g2 g3 (zs_B h2) (zs_N v2) g6 g7 g8 (d + 1) (nI i)) := by
  intro d
  induction d with
  | zero =>
    intro i hi _
    exact ⟨-2, fun _ P => pk_le 16 i (fun _ => P) (fun e => absurd e (by omega)), fun h2 v2 g7 g8 E _ P => pk_le 16 i (fun _ => P) (fun e => absurd e (by omega))⟩
  | succ d ih =>
    intro i hi hiU
    have ex : 16 * nI s + nI i = nI (16 * s + i) := zs_ix rfl
    have vi : vp_in (16 * nI s + nI i) 128 := pk_in _ 128 (by omega) ex
    by_cases c : U ≤ i
    · have z : U = i := by omega
      have hh := hU2 (by omega)
      rw [z] at hh
      exact ⟨-2, fun post P => pk_le 16 i (fun e => absurd e (by omega)) (fun _ => pk_le U i (fun _ => P) (fun e => absurd e (by omega))), fun h2 v2 g7 g8 E post P => pk_le 16 i (fun e => absurd e (by omega)) (fun _ => ⟨vi, br_t (zs_hF ex (by omega) (zs_Eh E hh (by omega))) P⟩)⟩
    · have hh := hU1 i (by omega)
      have b1 := hv (16 * s + i)
      have k1 : zs_N v (16 * nI s + nI i).toNatClampNeg = nI (v (16 * s + i)) := zs_at ex (by omega)
      have k2 : ∀ {h2 : Nat → Bool} {v2 : Nat → Nat}, zs_Eq h v h2 v2 → zs_N v2 (16 * nI s + nI i).toNatClampNeg = nI (v (16 * s + i)) := fun E => by rw [zs_at ex (by omega), zs_Ev E hh (by omega)]
      by_cases c0 : v (16 * s + i) = 0
      · obtain ⟨r, hX, hY⟩ := ih (i + 1) (by omega) (by omega)
        exact ⟨r, fun post P => pk_le 16 i (fun e => absurd e (by omega)) (fun _ => pk_le U i (fun e => absurd e (by omega)) (fun _ => ⟨vi, pk_eq (v (16 * s + i)) 0 (fun _ => nm_r (nI_1 i) (hX post P)) (fun z => absurd c0 z) k1⟩)), fun h2 v2 g7 g8 E post P => pk_le 16 i (fun e => absurd e (by omega)) (fun _ => ⟨vi, br_f (zs_hT ex (by omega) (zs_Eh E hh (by omega))) ⟨vi, pk_eq (v (16 * s + i)) 0 (fun _ => nm_r (nI_1 i) (hY h2 v2 g7 g8 E post P)) (fun z => absurd c0 z) (k2 E)⟩⟩)⟩
      · exact ⟨nI i, fun post P => pk_le 16 i (fun e => absurd e (by omega)) (fun _ => pk_le U i (fun e => absurd e (by omega)) (fun _ => ⟨vi, pk_eq (v (16 * s + i)) 0 (fun z => absurd z c0) (fun _ => P) k1⟩)), fun h2 v2 g7 g8 E post P => pk_le 16 i (fun e => absurd e (by omega)) (fun _ => ⟨vi, br_f (zs_hT ex (by omega) (zs_Eh E hh (by omega))) ⟨vi, pk_eq (v (16 * s + i)) 0 (fun z => absurd z c0) (fun _ => P) (k2 E)⟩⟩)⟩
theorem zs_lagr {s t : Nat} (hs : s < 8) (ht : t < 8) (hv : ∀ q, v q < 97) : ∀ d i, i + d = 16 → ∃ r : Int32, (∀ post : Int32 → Prop, post r → wX_agreeing_18 post (nI s) (nI t) f1 f2 f3 (zs_B h) (zs_N v) f6 f7 f8 (d + 1) (nI i)) ∧ (∀ (h2 : Nat → Bool) (v2 : Nat → Nat) (g7 g8 : Nat → Int32), zs_Eq h v h2 v2 → ∀ post : Int32 → SY → Prop, post r (g1, g2, g3, zs_B h2, zs_N v2, g6, g7, g8) → wY_agreeing_24 post (nI s) (nI t) g1 g2 g3 (zs_B h2) (zs_N v2) g6 g7 g8 (d + 1) (nI i)) := by
  intro d
  induction d with
  | zero =>
    intro i hi
    exact ⟨16, fun _ P => pk_le 16 i (fun _ => P) (fun e => absurd e (by omega)), fun h2 v2 g7 g8 E _ P => pk_le 16 i (fun _ => P) (fun e => absurd e (by omega))⟩
  | succ d ih =>
    intro i hi
    have ex : 16 * nI s + nI i = nI (16 * s + i) := zs_ix rfl
    have ey : 16 * nI t + nI i = nI (16 * t + i) := zs_ix rfl
    have vx : vp_in (16 * nI s + nI i) 128 := pk_in _ 128 (by omega) ex
    have vy : vp_in (16 * nI t + nI i) 128 := pk_in _ 128 (by omega) ey
    cases hh : h (16 * s + i) with
    | false =>
      exact ⟨nI i, fun post P => pk_le 16 i (fun e => absurd e (by omega)) (fun _ => nm_e (nm_e ⟨vx, br_t (zs_hF ex (by omega) hh) P⟩)), fun h2 v2 g7 g8 E post P => pk_le 16 i (fun e => absurd e (by omega)) (fun _ => ⟨vx, br_t (zs_hF ex (by omega) (zs_Eh E hh (by omega))) P⟩)⟩
    | true =>
      cases hh' : h (16 * t + i) with
      | false =>
        exact ⟨nI i, fun post P => pk_le 16 i (fun e => absurd e (by omega)) (fun _ => nm_e (nm_e ⟨vx, br_f (zs_hT ex (by omega) hh) ⟨vy, br_t (zs_hF ey (by omega) hh') P⟩⟩)), fun h2 v2 g7 g8 E post P => pk_le 16 i (fun e => absurd e (by omega)) (fun _ => ⟨vx, br_f (zs_hT ex (by omega) (zs_Eh E hh (by omega))) ⟨vy, br_t (zs_hF ey (by omega) (zs_Eh E hh' (by omega))) P⟩⟩)⟩
      | true =>
        have b1 := hv (16 * s + i)
        have b2 := hv (16 * t + i)
        have k1 : zs_N v (16 * nI s + nI i).toNatClampNeg = nI (v (16 * s + i)) := zs_at ex (by omega)
        have k2 : zs_N v (16 * nI t + nI i).toNatClampNeg = nI (v (16 * t + i)) := zs_at ey (by omega)
        have k3 : ∀ {h2 : Nat → Bool} {v2 : Nat → Nat}, zs_Eq h v h2 v2 → zs_N v2 (16 * nI s + nI i).toNatClampNeg = nI (v (16 * s + i)) := fun E => by rw [zs_at ex (by omega), zs_Ev E hh (by omega)]
        have k4 : ∀ {h2 : Nat → Bool} {v2 : Nat → Nat}, zs_Eq h v h2 v2 → zs_N v2 (16 * nI t + nI i).toNatClampNeg = nI (v (16 * t + i)) := fun E => by rw [zs_at ey (by omega), zs_Ev E hh' (by omega)]
        by_cases c : v (16 * s + i) = v (16 * t + i)
        · obtain ⟨r, hX, hY⟩ := ih (i + 1) (by omega)
          exact ⟨r, fun post P => pk_le 16 i (fun e => absurd e (by omega)) (fun _ => nm_e (nm_e ⟨vx, br_f (zs_hT ex (by omega) hh) ⟨vy, br_f (zs_hT ey (by omega) hh') ⟨vx, vy, pk_eq (v (16 * s + i)) (v (16 * t + i)) (fun _ => nm_r (nI_1 i) (hX post P)) (fun z => absurd c z) k1 k2⟩⟩⟩)), fun h2 v2 g7 g8 E post P => pk_le 16 i (fun e => absurd e (by omega)) (fun _ => ⟨vx, br_f (zs_hT ex (by omega) (zs_Eh E hh (by omega))) ⟨vy, br_f (zs_hT ey (by omega) (zs_Eh E hh' (by omega))) ⟨vx, vy, pk_eq (v (16 * s + i)) (v (16 * t + i)) (fun _ => nm_r (nI_1 i) (hY h2 v2 g7 g8 E post P)) (fun z => absurd c z) (k3 E) (k4 E)⟩⟩⟩)⟩
        · exact ⟨nI i, fun post P => pk_le 16 i (fun e => absurd e (by omega)) (fun _ => nm_e (nm_e ⟨vx, br_f (zs_hT ex (by omega) hh) ⟨vy, br_f (zs_hT ey (by omega) hh') ⟨vx, vy, pk_eq (v (16 * s + i)) (v (16 * t + i)) (fun z => absurd z c) (fun _ => P) k1 k2⟩⟩⟩)), fun h2 v2 g7 g8 E post P => pk_le 16 i (fun e => absurd e (by omega)) (fun _ => ⟨vx, br_f (zs_hT ex (by omega) (zs_Eh E hh (by omega))) ⟨vy, br_f (zs_hT ey (by omega) (zs_Eh E hh' (by omega))) ⟨vx, vy, pk_eq (v (16 * s + i)) (v (16 * t + i)) (fun z => absurd z c) (fun _ => P) (k3 E) (k4 E)⟩⟩⟩)⟩
theorem zs_lsum {s j : Nat} (hs : s < 8) (hj : j < 16) : ∀ d i, i + d = j + 1 → ∀ x : Int32, ∃ r : Int32, (∀ post : Int32 → Prop, post r → wX_sum_33 post (nI s) (nI j) f1 f2 f3 (zs_B h) (zs_N v) f6 f7 f8 (d + 1) x (nI i)) ∧ (∀ (h2 : Nat → Bool) (v2 : Nat → Nat) (g7 g8 : Nat → Int32), zs_Eq h v h2 v2 → ∀ post : Int32 → SY → Prop, post r (g1, g2, g3, zs_B h2, zs_N v2, g6, g7, g8) → wY_sum_38 post (nI s) (nI j) g1 g2 g3 (zs_B h2) (zs_N v2) g6 g7 g8 (d + 1) x (nI i)) := by
  intro d
  induction d with
  | zero =>
    intro i hi x
    exact ⟨x - x / 97 * 97, fun _ P => pk_lt j i (fun _ => ⟨by decide, P⟩) (fun e => absurd e (by omega)), fun h2 v2 g7 g8 E _ P => pk_lt j i (fun _ => ⟨by decide, P⟩) (fun e => absurd e (by omega))⟩
  | succ d ih =>
    intro i hi x
    have ex : 16 * nI s + nI i = nI (16 * s + i) := zs_ix rfl
    have vi : vp_in (16 * nI s + nI i) 128 := pk_in _ 128 (by omega) ex
    cases hh : h (16 * s + i) with
    | false =>
      exact ⟨-3, fun post P => pk_lt j i (fun e => absurd e (by omega)) (fun _ => ⟨vi, br_t (zs_hF ex (by omega) hh) P⟩), fun h2 v2 g7 g8 E post P => pk_lt j i (fun e => absurd e (by omega)) (fun _ => ⟨vi, br_t (zs_hF ex (by omega) (zs_Eh E hh (by omega))) P⟩)⟩
    | true =>
      obtain ⟨r, hX, hY⟩ := ih (i + 1) (by omega) (x + nI (v (16 * s + i)))
      have k1 : x + zs_N v (16 * nI s + nI i).toNatClampNeg = x + nI (v (16 * s + i)) := by rw [zs_at ex (by omega)]
      have k2 : ∀ {h2 : Nat → Bool} {v2 : Nat → Nat}, zs_Eq h v h2 v2 → x + zs_N v2 (16 * nI s + nI i).toNatClampNeg = x + nI (v (16 * s + i)) := fun E => by rw [zs_at ex (by omega), zs_Ev E hh (by omega)]
      exact ⟨r, fun post P => pk_lt j i (fun e => absurd e (by omega)) (fun _ => ⟨vi, br_f (zs_hT ex (by omega) hh) ⟨vi, nm_r k1 (nm_r (nI_1 i) (hX post P))⟩⟩), fun h2 v2 g7 g8 E post P => pk_lt j i (fun e => absurd e (by omega)) (fun _ => ⟨vi, br_f (zs_hT ex (by omega) (zs_Eh E hh (by omega))) ⟨vi, nm_r (k2 E) (nm_r (nI_1 i) (hY h2 v2 g7 g8 E post P))⟩⟩)⟩
/-! evaluate -/
def zs_wt (x : Nat) : Nat → Nat
  | 0 => 1
  | n + 1 => zs_wt x n * x % 97
def zs_pl (c : Nat → Nat) (x : Nat) : Nat → Nat
  | 0 => 0
  | n + 1 => (zs_pl c x n + c n * zs_wt x n) % 97
def zs_ho (c : Nat → Nat) (x : Nat) : Nat → Nat → Nat
  | 0 => fun t => t
  | n + 1 => fun t => zs_ho c x n ((t * x + c n) % 97)
theorem zs_mm (a b e : Nat) : (a % 97 * b + e) % 97 = (a * b + e) % 97 := by
  have q : a * b = 97 * (a / 97 * b) + a % 97 * b := by
    rw [← Nat.mul_assoc, ← Nat.add_mul, Nat.div_add_mod]
  rw [q]
  generalize a / 97 * b = Y
  generalize a % 97 * b = X
  omega
theorem zs_wt_lt (x n : Nat) : zs_wt x n < 97 := by
  cases n with
  | zero => exact (by decide : 1 < 97)
  | succ n => exact Nat.mod_lt _ (by decide)
theorem zs_pl_lt (c : Nat → Nat) (x n : Nat) : zs_pl c x n < 97 := by
  cases n with
  | zero => exact (by decide : 0 < 97)
  | succ n => exact Nat.mod_lt _ (by decide)
theorem zs_ho_e (c : Nat → Nat) (x : Nat) : ∀ n t, zs_ho c x n t % 97 = (t * zs_wt x n + zs_pl c x n) % 97 := by
  intro n
  induction n with
  | zero =>
    intro t
    show t % 97 = (t * 1 + 0) % 97
    rw [Nat.mul_one, Nat.add_zero]
  | succ n ih =>
    intro t
    show zs_ho c x n ((t * x + c n) % 97) % 97 = (t * (zs_wt x n * x % 97) + (zs_pl c x n + c n * zs_wt x n) % 97) % 97
    rw [ih, zs_mm, Nat.mul_comm t (zs_wt x n * x % 97), zs_mm]
    have e1 : (t * x + c n) * zs_wt x n = zs_wt x n * x * t + c n * zs_wt x n := by
      rw [Nat.add_mul, Nat.mul_comm (zs_wt x n) x, Nat.mul_comm (x * zs_wt x n) t, Nat.mul_assoc]
    rw [e1]
    generalize zs_wt x n * x * t = X
    generalize c n * zs_wt x n = Y
    generalize zs_pl c x n = Z
    omega
theorem zs_ho_lt (c : Nat → Nat) (x : Nat) : ∀ n t, t < 97 → zs_ho c x n t < 97 := by
  intro n
  induction n with
  | zero => intro t h; exact h
  | succ n ih => intro t h; exact ih _ (Nat.mod_lt _ (by decide))
theorem zs_ho_pl (c : Nat → Nat) (x n : Nat) : zs_ho c x n 0 = zs_pl c x n := by
  have e := zs_ho_e c x n 0
  rw [Nat.zero_mul, Nat.zero_add, Nat.mod_eq_of_lt (zs_ho_lt c x n 0 (by decide)), Nat.mod_eq_of_lt (zs_pl_lt c x n)] at e
  exact e
theorem zs_pl_c {c d : Nat → Nat} (x : Nat) : ∀ n, (∀ i, i < n → c i = d i) → zs_pl c x n = zs_pl d x n := by
  intro n
  induction n with
  | zero => intro _; rfl
  | succ n ih =>
    intro e
    show (zs_pl c x n + c n * zs_wt x n) % 97 = (zs_pl d x n + d n * zs_wt x n) % 97
    rw [ih (fun i hi => e i (by omega)), e n (by omega)]
theorem zx_ev {post : Int32 → Prop} {s x : Nat} (hs : s < 8) (hx : x < 97) (hv : ∀ q, v q < 97) : ∀ n t, n ≤ 16 → t < 97 → post (nI (zs_ho (fun i => v (16 * s + i)) x n t)) → wX_evaluate_48 post (nI s) (nI x) f1 f2 f3 f4 (zs_N v) f6 f7 f8 (n + 1) (nI t) (nI n + (-1)) := by
  intro n
  induction n with
  | zero =>
    intro t hn ht P
    exact br_t (by decide) P
  | succ n ih =>
    intro t hn ht P
    have ex : 16 * nI s + nI n = nI (16 * s + n) := zs_ix rfl
    have hb := zs_mul96 ht hx
    have hc := hv (16 * s + n)
    rw [pk_m1]
    refine br_f (nI_pos (by omega)) ⟨pk_in _ 128 (by omega) ex, by decide, nm_r (e' := nI ((t * x + v (16 * s + n)) % 97)) ?_ (nm_e (ih _ (by omega) (Nat.mod_lt _ (by decide)) P))⟩
    rw [zs_at ex (by omega), pk_mul, nI_add, zs_r97 (by omega)]
theorem zy_evT {post : Int32 → SY → Prop} {s m : Nat} {z : Int32} (hs : s < 8) (hm : m ≤ 16) (hv : ∀ q, v q < 97) (ha : ∀ i, i < m → h (16 * s + i) = true) (P : post (nI (zs_pl (fun i => v (16 * s + i)) (zs_md z) m)) (f1, f2, f3, zs_B h, zs_N v, f6, f7, f8)) : ∀ d i, i + d = m → wY_evaluate_36 post (nI s) (nI m) z f1 f2 f3 (zs_B h) (zs_N v) f6 f7 f8 (d + 1) (nI (zs_pl (fun i => v (16 * s + i)) (zs_md z) i)) (nI (zs_wt (zs_md z) i)) (nI i) := by
  intro d
  induction d with
  | zero =>
    intro i hi
    have e : i = m := by omega
    subst e
    exact pk_le i i (fun _ => P) (fun e => absurd e (by omega))
  | succ d ih =>
    intro i hi
    have ex : 16 * nI s + nI i = nI (16 * s + i) := zs_ix rfl
    have vi : vp_in (16 * nI s + nI i) 128 := pk_in _ 128 (by omega) ex
    have b1 := zs_mul96 (hv (16 * s + i)) (zs_wt_lt (zs_md z) i)
    have b2 := zs_pl_lt (fun i => v (16 * s + i)) (zs_md z) i
    have b3 := zs_mul96 (zs_wt_lt (zs_md z) i) (zs_md_lt z)
    refine pk_le m i (fun e => absurd e (by omega)) (fun _ => ⟨vi, br_f (zs_hT ex (by omega) (ha i (by omega))) ⟨vi, by decide, nm_r (e' := nI (zs_pl (fun i => v (16 * s + i)) (zs_md z) (i + 1))) ?_ (zy_red z ⟨by decide, nm_r (e' := nI (zs_wt (zs_md z) (i + 1))) ?_ (nm_r (nI_1 i) (ih (i + 1) (by omega)))⟩)⟩⟩)
    · rw [zs_at ex (by omega), pk_mul, nI_add, zs_r97 (by omega)]
      rfl
    · rw [pk_mul, zs_r97 (by omega)]
      rfl
theorem zy_evF {post : Int32 → SY → Prop} {s m U : Nat} {z : Int32} (hs : s < 8) (hm : m ≤ 16) (hU : U < m) (hh : h (16 * s + U) = false) (P : post (-3) (f1, f2, f3, zs_B h, zs_N v, f6, f7, f8)) : ∀ d i, i + d = U → ∀ x y : Int32, wY_evaluate_36 post (nI s) (nI m) z f1 f2 f3 (zs_B h) (zs_N v) f6 f7 f8 (d + 1) x y (nI i) := by
  intro d
  induction d with
  | zero =>
    intro i hi x y
    have ex : 16 * nI s + nI i = nI (16 * s + i) := zs_ix rfl
    have e : i = U := by omega
    subst e
    exact pk_le m i (fun e => absurd e (by omega)) (fun _ => ⟨pk_in _ 128 (by omega) ex, br_t (zs_hF ex (by omega) hh) P⟩)
  | succ d ih =>
    intro i hi x y
    have ex : 16 * nI s + nI i = nI (16 * s + i) := zs_ix rfl
    have vi : vp_in (16 * nI s + nI i) 128 := pk_in _ 128 (by omega) ex
    refine pk_le m i (fun e => absurd e (by omega)) (fun _ => ⟨vi, ?_⟩)
    cases hi2 : h (16 * s + i) with
    | false => exact br_t (zs_hF ex (by omega) hi2) P
    | true => exact br_f (zs_hT ex (by omega) hi2) ⟨vi, by decide, nm_e (zy_red z ⟨by decide, nm_e (nm_r (nI_1 i) (ih (i + 1) (by omega) _ _))⟩)⟩
/-! define -/
theorem zx_fst {post : Int32 → Prop} {k : Nat} (hk : k ≤ 9) (P : post (zs_b (decide (2 ≤ k)))) : wpX_firstPartIsSeries post (nI k) := by
  refine pk_eq k 0 (fun e => ?_) (fun e => pk_eq k 1 (fun e2 => ?_) (fun e2 => ?_))
  · rw [decide_eq_false (by omega)] at P; exact P
  · rw [decide_eq_false (by omega)] at P; exact P
  · rw [decide_eq_true (by omega)] at P; exact P
theorem zx_snd {post : Int32 → Prop} {k : Nat} (hk : k ≤ 9) (P : post (zs_b (decide (k = 2 ∨ k = 3 ∨ k = 9)))) : wpX_secondPartIsSeries post (nI k) := by
  refine pk_eq k 2 (fun e => ?_) (fun e => pk_eq k 3 (fun e2 => ?_) (fun e2 => pk_eq k 9 (fun e3 => ?_) (fun e3 => ?_)))
  · rw [decide_eq_true (by omega)] at P; exact P
  · rw [decide_eq_true (by omega)] at P; exact P
  · rw [decide_eq_true (by omega)] at P; exact P
  · rw [decide_eq_false (by omega)] at P; exact P
theorem zx_num {post : Int32 → Prop} {k : Nat} (hk : k ≤ 9) (P : post (zs_b (decide (k = 0 ∨ k = 4 ∨ k = 6 ∨ k = 8)))) : wpX_secondPartIsNumber post (nI k) := by
  refine pk_eq k 0 (fun e => ?_) (fun e => pk_eq k 4 (fun e2 => ?_) (fun e2 => pk_eq k 6 (fun e3 => ?_) (fun e3 => pk_eq k 8 (fun e4 => ?_) (fun e4 => ?_))))
  · rw [decide_eq_true (by omega)] at P; exact P
  · rw [decide_eq_true (by omega)] at P; exact P
  · rw [decide_eq_true (by omega)] at P; exact P
  · rw [decide_eq_true (by omega)] at P; exact P
  · rw [decide_eq_false (by omega)] at P; exact P
/-- the second part that X keeps -/
def zs_bX (k : Nat) (y : Int32) : Nat := if k = 0 ∨ k = 4 ∨ k = 6 ∨ k = 8 then zs_md y else 0
theorem zx_d95 {post : Int32 → SX → Prop} {s k a b : Nat} {x6 x7 y : Int32} (hs : s < 8) (hk : k ≤ 9) (P : ∀ u, u = zs_un B s b → wX_define_134 post x7 f1 (zs_N (zs_un A s a)) (zs_N u) f4 f5 f6 f7 f8) (h1 : k = 2 ∨ k = 3 ∨ k = 9 → x6 = 1 ∧ y = nI b) (h0 : ¬ (k = 2 ∨ k = 3 ∨ k = 9) → x6 = 0 ∧ b = zs_bX k y) : wX_define_95 post (nI s) (nI k) y x6 x7 (nI a) (nI s) f1 (zs_N A) (zs_N B) f4 f5 f6 f7 f8 := by
  have ei := vp_in_nI hs (by decide : 8 < 2 ^ 31)
  have e1 : upd (zs_N A) (nI s).toNatClampNeg (nI a) = zs_N (zs_un A s a) := by rw [nI_clamp (by omega)]; exact zs_updN _ _ _
  have e2 : ∀ c, upd (zs_N B) (nI s).toNatClampNeg (nI c) = zs_N (zs_un B s c) := fun c => by rw [nI_clamp (by omega)]; exact zs_updN _ _ _
  refine ⟨ei, nm_r e1 ?_⟩
  by_cases c : k = 2 ∨ k = 3 ∨ k = 9
  · obtain ⟨rfl, rfl⟩ := h1 c
    exact br_f (by decide) ⟨ei, nm_r (e2 b) (P _ rfl)⟩
  · obtain ⟨rfl, eb⟩ := h0 c
    refine br_t rfl (zx_num hk ?_)
    by_cases d : k = 0 ∨ k = 4 ∨ k = 6 ∨ k = 8
    · have e : b = zs_md y := by rw [eb]; exact if_pos d
      rw [decide_eq_true d]
      exact br_f (by decide) (zx_red y ⟨ei, nm_r (e2 _) (P _ (by rw [e]))⟩)
    · have e : b = 0 := by rw [eb]; exact if_neg d
      rw [decide_eq_false d]
      exact br_t rfl ⟨ei, nm_r (e2 0) (P _ (by rw [e]))⟩
theorem zx_d65 {post : Int32 → SX → Prop} {s k a b : Nat} {x3 x5 x6 y : Int32} (G : zs_Gd (zs_un K s k) (zs_un A s a) (zs_un B s b)) (hv : ∀ q, v q < 97) (hs : s < 8) (hk : k ≤ 9) (h51 : 2 ≤ k → x5 = 1 ∧ x3 = nI a) (h50 : ¬ 2 ≤ k → x5 = 0 ∧ a = 0) (h1 : k = 2 ∨ k = 3 ∨ k = 9 → x6 = 1 ∧ y = nI b) (h0 : ¬ (k = 2 ∨ k = 3 ∨ k = 9) → x6 = 0 ∧ b = zs_bX k y) (P : ∀ h v f6, (∀ q, v q < 97) → zs_Lf (zs_un K s k) (zs_un A s a) (zs_un B s b) h v → post (nI (K s)) (zs_N (zs_un K s k), zs_N (zs_un A s a), zs_N (zs_un B s b), zs_B h, zs_N v, f6, f7, f8)) : wX_define_65 post (nI s) (nI k) x3 y x5 x6 (zs_N K) (zs_N A) (zs_N B) (zs_B h) (zs_N v) f6 f7 f8 := by
  have ei := vp_in_nI hs (by decide : 8 < 2 ^ 31)
  have e1 : upd (zs_N K) (nI s).toNatClampNeg (nI k) = zs_N (zs_un K s k) := by rw [nI_clamp (by omega)]; exact zs_updN _ _ _
  have W : ∀ u, u = zs_un B s b → wX_define_134 post (nI (K s)) (zs_N (zs_un K s k)) (zs_N (zs_un A s a)) (zs_N u) (zs_B h) (zs_N v) f6 f7 f8 := fun u hu => by
    subst hu
    exact zx_find G hv P
  refine ⟨ei, nm_r (zs_at rfl (by omega)) ⟨ei, nm_r e1 ?_⟩⟩
  by_cases c : 2 ≤ k
  · obtain ⟨rfl, rfl⟩ := h51 c
    exact br_f (by decide) (zx_d95 hs hk W h1 h0)
  · obtain ⟨rfl, rfl⟩ := h50 c
    exact br_t rfl (zx_d95 (a := 0) hs hk W h1 h0)
theorem zx_d43 {post : Int32 → SX → Prop} {s k a b : Nat} {x3 x5 y : Int32} (G : zs_Gd (zs_un K s k) (zs_un A s a) (zs_un B s b)) (hv : ∀ q, v q < 97) (hs : s < 8) (hk : k ≤ 9) (h51 : 2 ≤ k → x5 = 1 ∧ x3 = nI a) (h50 : ¬ 2 ≤ k → x5 = 0 ∧ a = 0) (h1 : k = 2 ∨ k = 3 ∨ k = 9 → y = nI b ∧ b < 8) (h0 : ¬ (k = 2 ∨ k = 3 ∨ k = 9) → b = zs_bX k y) (P : ∀ h v f6, (∀ q, v q < 97) → zs_Lf (zs_un K s k) (zs_un A s a) (zs_un B s b) h v → post (nI (K s)) (zs_N (zs_un K s k), zs_N (zs_un A s a), zs_N (zs_un B s b), zs_B h, zs_N v, f6, f7, f8)) : wX_define_43 post (nI s) (nI k) x3 y x5 (zs_N K) (zs_N A) (zs_N B) (zs_B h) (zs_N v) f6 f7 f8 := by
  refine zx_snd hk ?_
  by_cases c : k = 2 ∨ k = 3 ∨ k = 9
  · obtain ⟨rfl, hb⟩ := h1 c
    rw [decide_eq_true c]
    exact br_f (by decide) (zx_isT hb (br_f (by decide) (zx_d65 G hv hs hk h51 h50 (fun _ => ⟨rfl, rfl⟩) (fun z => absurd c z) P)))
  · rw [decide_eq_false c]
    exact br_t rfl (zx_d65 G hv hs hk h51 h50 (fun z => absurd z c) (fun _ => ⟨rfl, h0 c⟩) P)
theorem zx_def {post : Int32 → SX → Prop} {s k a b : Nat} {x3 y : Int32} (G : zs_Gd (zs_un K s k) (zs_un A s a) (zs_un B s b)) (hv : ∀ q, v q < 97) (hs : s < 8) (hk : k ≤ 9) (h51 : 2 ≤ k → x3 = nI a ∧ a < 8) (h50 : ¬ 2 ≤ k → a = 0) (h1 : k = 2 ∨ k = 3 ∨ k = 9 → y = nI b ∧ b < 8) (h0 : ¬ (k = 2 ∨ k = 3 ∨ k = 9) → b = zs_bX k y) (P : ∀ h v f6, (∀ q, v q < 97) → zs_Lf (zs_un K s k) (zs_un A s a) (zs_un B s b) h v → post (nI (K s)) (zs_N (zs_un K s k), zs_N (zs_un A s a), zs_N (zs_un B s b), zs_B h, zs_N v, f6, f7, f8)) : wpX_define post (zs_N K, zs_N A, zs_N B, zs_B h, zs_N v, f6, f7, f8) (nI s) (nI k) x3 y := by
  unfold wpX_define
  dsimp only
  refine zx_isT hs ?_
  refine br_f (by decide) (br_f (nI_pos (by omega)) (pk_le k 9 (fun _ => zx_fst hk ?_) (fun e => absurd e (by omega))))
  by_cases c : 2 ≤ k
  · obtain ⟨rfl, ha⟩ := h51 c
    rw [decide_eq_true c]
    exact br_f (by decide) (zx_isT ha (br_f (by decide) (zx_d43 G hv hs hk (fun _ => ⟨rfl, rfl⟩) (fun z => absurd c z) h1 h0 P)))
  · rw [decide_eq_false c]
    exact br_t rfl (zx_d43 G hv hs hk (fun z => absurd z c) (fun _ => ⟨rfl, h50 c⟩) h1 h0 P)
theorem zx_def3 {post : Int32 → SX → Prop} {s k : Nat} {x3 y : Int32} (hs : s < 8) (hk : k ≤ 9) (c : 2 ≤ k) (hx : x3 < 0 ∨ nI 8 ≤ x3) (P : post (-3) (f1, f2, f3, f4, f5, f6, f7, f8)) : wpX_define post (f1, f2, f3, f4, f5, f6, f7, f8) (nI s) (nI k) x3 y := by
  unfold wpX_define
  dsimp only
  refine zx_isT hs ?_
  refine br_f (by decide) (br_f (nI_pos (by omega)) (pk_le k 9 (fun _ => zx_fst hk ?_) (fun e => absurd e (by omega))))
  rw [decide_eq_true c]
  exact br_f (by decide) (zx_isF hx (br_t rfl P))
theorem zx_def4 {post : Int32 → SX → Prop} {s k a : Nat} {y : Int32} (hs : s < 8) (hk : k ≤ 9) (c : k = 2 ∨ k = 3 ∨ k = 9) (ha : a < 8) (hx : y < 0 ∨ nI 8 ≤ y) (P : post (-4) (f1, f2, f3, f4, f5, f6, f7, f8)) : wpX_define post (f1, f2, f3, f4, f5, f6, f7, f8) (nI s) (nI k) (nI a) y := by
  unfold wpX_define
  dsimp only
  refine zx_isT hs ?_
  refine br_f (by decide) (br_f (nI_pos (by omega)) (pk_le k 9 (fun _ => zx_fst hk ?_) (fun e => absurd e (by omega))))
  rw [decide_eq_true (by omega)]
  refine br_f (by decide) (zx_isT ha (br_f (by decide) (zx_snd hk ?_)))
  rw [decide_eq_true c]
  exact br_f (by decide) (zx_isF hx (br_t rfl P))
theorem zy_d79 {post : Int32 → SY → Prop} {s k a b : Nat} {x3 x5 y : Int32} (hs : s < 8) (hk : k ≤ 9) (h51 : 2 ≤ k → x3 = nI a) (h50 : ¬ 2 ≤ k → a = 0) (h1 : k = 2 ∨ k = 3 ∨ k = 9 → x5 = 1 ∧ y = nI b) (h0 : ¬ (k = 2 ∨ k = 3 ∨ k = 9) → x5 = 0 ∧ b = zs_md y) (P : post (nI (K s)) (zs_N (zs_un K s k), zs_N (zs_un A s a), zs_N (zs_un B s b), f4, f5, f6, f7, f8)) : wY_define_79 post (nI s) (nI k) x3 y x5 (zs_N K) (zs_N A) (zs_N B) f4 f5 f6 f7 f8 := by
  have ei := vp_in_nI hs (by decide : 8 < 2 ^ 31)
  have e1 : upd (zs_N K) (nI s).toNatClampNeg (nI k) = zs_N (zs_un K s k) := by rw [nI_clamp (by omega)]; exact zs_updN _ _ _
  have e2 : upd (zs_N A) (nI s).toNatClampNeg (nI a) = zs_N (zs_un A s a) := by rw [nI_clamp (by omega)]; exact zs_updN _ _ _
  have e3 : upd (zs_N B) (nI s).toNatClampNeg (nI b) = zs_N (zs_un B s b) := by rw [nI_clamp (by omega)]; exact zs_updN _ _ _
  have W : wY_define_109 post (nI s) y x5 (nI (K s)) (nI a) (nI s) (zs_N (zs_un K s k)) (zs_N A) (zs_N B) f4 f5 f6 f7 f8 := by
    refine ⟨ei, nm_r e2 ?_⟩
    by_cases c : k = 2 ∨ k = 3 ∨ k = 9
    · obtain ⟨rfl, rfl⟩ := h1 c
      exact br_f (by decide) ⟨ei, nm_r e3 P⟩
    · obtain ⟨rfl, rfl⟩ := h0 c
      exact br_t rfl (zy_red y ⟨ei, nm_r e3 P⟩)
  refine ⟨ei, nm_r (zs_at rfl (by omega)) ⟨ei, nm_r e1 (pk_le k 1 (fun c => ?_) (fun c => ?_))⟩⟩
  · have e := h50 (by omega)
    subst e
    exact W
  · have e := h51 (by omega)
    subst e
    exact W
theorem zy_d39 {post : Int32 → SY → Prop} {s k a b : Nat} {x3 y : Int32} (hs : s < 8) (hk : k ≤ 9) (h51 : 2 ≤ k → x3 = nI a) (h50 : ¬ 2 ≤ k → a = 0) (h1 : k = 2 ∨ k = 3 ∨ k = 9 → y = nI b ∧ b < 8) (h0 : ¬ (k = 2 ∨ k = 3 ∨ k = 9) → b = zs_md y) (P : post (nI (K s)) (zs_N (zs_un K s k), zs_N (zs_un A s a), zs_N (zs_un B s b), f4, f5, f6, f7, f8)) : wY_define_39 post (nI s) (nI k) x3 y (zs_N K) (zs_N A) (zs_N B) f4 f5 f6 f7 f8 := by
  have T : k = 2 ∨ k = 3 ∨ k = 9 → wY_define_55 post (nI s) (nI k) x3 y (zs_N K) (zs_N A) (zs_N B) f4 f5 f6 f7 f8 := fun c => by
    obtain ⟨rfl, hb⟩ := h1 c
    exact br_f (by decide) (zy_bdF hb (br_t rfl (zy_d79 hs hk h51 h50 (fun _ => ⟨rfl, rfl⟩) (fun z => absurd c z) P)))
  refine pk_eq k 2 (fun e => T (Or.inl e)) (fun e => pk_eq k 3 (fun e2 => T (Or.inr (Or.inl e2))) (fun e2 => pk_eq k 9 (fun e3 => T (Or.inr (Or.inr e3))) (fun e3 => ?_)))
  have c : ¬ (k = 2 ∨ k = 3 ∨ k = 9) := by omega
  exact br_t rfl (zy_d79 hs hk h51 h50 (fun z => absurd z c) (fun _ => ⟨rfl, h0 c⟩) P)
theorem zy_def {post : Int32 → SY → Prop} {s k a b : Nat} {x3 y : Int32} (hs : s < 8) (hk : k ≤ 9) (h51 : 2 ≤ k → x3 = nI a ∧ a < 8) (h50 : ¬ 2 ≤ k → a = 0) (h1 : k = 2 ∨ k = 3 ∨ k = 9 → y = nI b ∧ b < 8) (h0 : ¬ (k = 2 ∨ k = 3 ∨ k = 9) → b = zs_md y) (P : post (nI (K s)) (zs_N (zs_un K s k), zs_N (zs_un A s a), zs_N (zs_un B s b), f4, f5, f6, f7, f8)) : wpY_define post (zs_N K, zs_N A, zs_N B, f4, f5, f6, f7, f8) (nI s) (nI k) x3 y := by
  unfold wpY_define
  dsimp only
  refine zy_bdF hs ?_
  refine br_t rfl (br_f (nI_pos (by omega)) (pk_le k 9 (fun _ => pk_le k 1 (fun c => ?_) (fun c => ?_)) (fun e => absurd e (by omega))))
  · exact zy_d39 hs hk (fun z => absurd z (by omega)) h50 h1 h0 P
  · obtain ⟨rfl, ha⟩ := h51 (by omega)
    exact zy_bdF ha (br_t rfl (zy_d39 hs hk (fun _ => rfl) h50 h1 h0 P))
theorem zy_def3 {post : Int32 → SY → Prop} {s k : Nat} {x3 y : Int32} (hs : s < 8) (hk : k ≤ 9) (c : 2 ≤ k) (hx : x3 < 0 ∨ nI 8 ≤ x3) (P : post (-3) (f1, f2, f3, f4, f5, f6, f7, f8)) : wpY_define post (f1, f2, f3, f4, f5, f6, f7, f8) (nI s) (nI k) x3 y := by
  unfold wpY_define
  dsimp only
  refine zy_bdF hs ?_
  exact (br_t rfl (br_f (nI_pos (by omega)) (pk_le k 9 (fun _ => pk_le k 1 (fun e => absurd e (by omega)) (fun _ => zy_bdT hx (br_f (by decide) P))) (fun e => absurd e (by omega)))))
theorem zy_def4 {post : Int32 → SY → Prop} {s k a : Nat} {y : Int32} (hs : s < 8) (hk : k ≤ 9) (c : k = 2 ∨ k = 3 ∨ k = 9) (ha : a < 8) (hx : y < 0 ∨ nI 8 ≤ y) (P : post (-4) (f1, f2, f3, f4, f5, f6, f7, f8)) : wpY_define post (f1, f2, f3, f4, f5, f6, f7, f8) (nI s) (nI k) (nI a) y := by
  have T : wY_define_55 post (nI s) (nI k) (nI a) y f1 f2 f3 f4 f5 f6 f7 f8 := br_f (by decide) (zy_bdT hx (br_f (by decide) P))
  unfold wpY_define
  dsimp only
  refine zy_bdF hs ?_
  refine br_t rfl (br_f (nI_pos (by omega)) (pk_le k 9 (fun _ => pk_le k 1 (fun e => absurd e (by omega)) (fun _ => zy_bdF ha ?_)) (fun e => absurd e (by omega))))
  refine br_t rfl ?_
  exact pk_eq k 2 (fun _ => T) (fun e => pk_eq k 3 (fun _ => T) (fun e2 => pk_eq k 9 (fun _ => T) (fun e3 => absurd c (by omega))))
end
