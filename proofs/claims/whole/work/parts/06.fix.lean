section
variable {K A B : Nat → Nat} {h : Nat → Bool} {v : Nat → Nat} {f1 f2 f3 f4 f5 f6 f7 f8 : Nat → Int32}
/-- what holds while the places are looked at: c says whether this round has found a value, D which places it has looked at -/
def zs_Inv (K A B : Nat → Nat) (h : Nat → Bool) (v : Nat → Nat) (R : Nat) (c : Bool) (D : Nat → Prop) : Prop := (∀ q, v q < 97) ∧ zs_Bel K A B h v ∧ zs_Con K A B h v ∧ R + (if c = true then 1 else 0) ≤ zs_cn h 128 ∧ (c = false → ∀ q, D q → zs_All K A B h q → zs_rul K A B v q = false → h q = true)
theorem zs_skip {R : Nat} {c : Bool} {D D' : Nat → Prop} {p : Nat} (I : zs_Inv K A B h v R c D) (hp : zs_All K A B h p → zs_rul K A B v p = false → h p = true) (hD : ∀ q, D' q → D q ∨ q = p) : zs_Inv K A B h v R c D' := by
  obtain ⟨i1, i2, i3, i4, i5⟩ := I
  refine ⟨i1, i2, i3, i4, fun hc q hq => ?_⟩
  rcases hD q hq with z | z
  · exact i5 hc q z
  · subst z; exact hp
theorem zs_add {R : Nat} {c : Bool} {D D' : Nat → Prop} {p : Nat} (G : zs_Gd K A B) (I : zs_Inv K A B h v R c D) (hp : p < 128) (hh : h p = false) (ha : zs_All K A B h p) (hr : zs_rul K A B v p = false) : zs_Inv K A B (zs_ub h p true) (zs_un v p (zs_val K A B v p)) R true D' := by
  obtain ⟨i1, i2, i3, i4, i5⟩ := I
  have s := zs_step G i2 i3 hp hh ha hr
  refine ⟨fun q => ?_, s.1, s.2, ?_, fun z => nomatch z⟩
  · by_cases z : q = p
    · subst z; rw [zs_un_s]; exact zs_vl_lt (G (q / 16) (by omega)).2.2.1 i1
    · rw [zs_un_n z]; exact i1 q
  · rw [zs_cn_add hh 128 hp, if_pos rfl]
    omega
theorem zs_fin (i2 : zs_Bel K A B h v) (i3 : zs_Con K A B h v) (i5 : ∀ q, q < 128 → zs_All K A B h q → zs_rul K A B v q = false → h q = true) : zs_Lf K A B h v :=
  ⟨fun p hp ha hr => ⟨i5 p hp ha hr, (i3 p hp (i5 p hp ha hr)).2.2⟩, i2⟩
theorem zs_inv0 (hv : ∀ q, v q < 97) (hh : ∀ q, q < 128 → h q = false) : zs_Bel K A B h v ∧ zs_Con K A B h v := by
  constructor
  · intro h2 v2 _ p hp e
    rw [hh p hp] at e; exact nomatch e
  · intro p hp e
    rw [hh p hp] at e; exact nomatch e
/-! X: findAllValues -/
theorem zx_f48 {post : SX → Prop} {J33 : Int32 → Int32 → (Nat → Int32) → (Nat → Int32) → (Nat → Int32) → (Nat → Int32) → (Nat → Int32) → (Nat → Int32) → (Nat → Int32) → (Nat → Int32) → Prop} {x2 : Int32} {R : Nat} (G : zs_Gd K A B) (P : ∀ c h v f6, zs_Inv K A B h v R c (fun q => q < 128) → J33 (zs_b c) (x2 + 1) (zs_N K) (zs_N A) (zs_N B) (zs_B h) (zs_N v) f6 f7 f8) : ∀ d i, i + d = 128 → ∀ c h v f6, zs_Inv K A B h v R c (fun q => q < i) → wX_findAllValues_48 post J33 x2 (d + 1) (zs_b c) (nI i) (zs_N K) (zs_N A) (zs_N B) (zs_B h) (zs_N v) f6 f7 f8 := by
  intro d
  induction d with
  | zero =>
    intro i hi c h v f6 I
    have e : i = 128 := by omega
    subst e
    exact pk_le 128 128 (fun _ => nm_e (P c h v f6 I)) (fun e => absurd e (by omega))
  | succ d ih =>
    intro i hi c h v f6 I
    have hl : i < 128 := by omega
    have D : ∀ q, q < i + 1 → q < i ∨ q = i := fun q hq => by omega
    have vi := vp_in_nI hl (by decide : 128 < 2 ^ 31)
    have nx : ∀ c h v f6, zs_Inv K A B h v R c (fun q => q < i + 1) → wX_findAllValues_48 post J33 x2 (d + 1) (zs_b c) (nI (i + 1)) (zs_N K) (zs_N A) (zs_N B) (zs_B h) (zs_N v) f6 f7 f8 := ih (i + 1) (by omega)
    refine pk_le 128 i (fun e => absurd e (by omega)) (fun _ => ⟨vi, ?_⟩)
    cases hh : h i with
    | true => exact br_f (zs_hT rfl (by omega) hh) (nm_r (nI_1 i) (nx c h v f6 (zs_skip I (fun _ _ => hh) D)))
    | false =>
      refine br_t (zs_hF rfl (by omega) hh) (zx_all G hl (fun ha => br_f (by decide) (zx_rul G hl I.1 ?_)) (fun ha => br_t rfl (nm_r (nI_1 i) (nx c h v f6 (zs_skip I (fun z => absurd z ha) D)))))
      cases hr : zs_rul K A B v i with
      | true => exact br_f (by decide) (nm_r (nI_1 i) (nx c h v f6 (zs_skip I (fun _ z => by rw [hr] at z; exact nomatch z) D)))
      | false =>
        have e1 : upd (zs_N v) (nI i).toNatClampNeg (nI (zs_val K A B v i)) = zs_N (zs_un v i (zs_val K A B v i)) := by rw [nI_clamp (by omega)]; exact zs_updN _ _ _
        have e2 : upd (zs_B h) (nI i).toNatClampNeg (vp_nar .boolean 1) = zs_B (zs_ub h i true) := by rw [nI_clamp (by omega), zs_bn]; exact zs_updB _ _ _
        exact br_t rfl (zx_val G hl I.1 fun f => ⟨vi, nm_r e1 ⟨vi, nm_r e2 (nm_r (nI_1 i) (nx true _ _ f (zs_add G I hl hh ha hr)))⟩⟩)
theorem zx_f33 {post : SX → Prop} (G : zs_Gd K A B) (P : ∀ h v f6, (∀ q, v q < 97) → zs_Lf K A B h v → post (zs_N K, zs_N A, zs_N B, zs_B h, zs_N v, f6, f7, f8)) : ∀ d R, R + d = 128 → ∀ c h v f6, (∀ q, v q < 97) → zs_Bel K A B h v → zs_Con K A B h v → (c = true → R ≤ zs_cn h 128) → (c = false → ∀ q, q < 128 → zs_All K A B h q → zs_rul K A B v q = false → h q = true) → wX_findAllValues_33 post (d + 1) (zs_b c) (nI R) (zs_N K) (zs_N A) (zs_N B) (zs_B h) (zs_N v) f6 f7 f8 := by
  intro d
  induction d with
  | zero =>
    intro R hR c h v f6 i1 i2 i3 i4 i5
    refine pk_le 128 R (fun _ => P h v f6 i1 (zs_fin i2 i3 ?_)) (fun e => absurd e (by omega))
    cases c with
    | false => exact i5 rfl
    | true => exact fun q hq _ _ => zs_cn_all (k := 128) (by have := i4 rfl; omega) q hq
  | succ d ih =>
    intro R hR c h v f6 i1 i2 i3 i4 i5
    refine pk_le 128 R (fun e => absurd e (by omega)) (fun _ => ?_)
    cases c with
    | false => exact br_t rfl (P h v f6 i1 (zs_fin i2 i3 (i5 rfl)))
    | true =>
      refine br_f (by decide) ⟨129, zx_f48 (R := R) G (fun c h v f6 I => ?_) 128 0 rfl false h v f6 ⟨i1, i2, i3, i4 rfl, fun _ q hq => absurd hq (by omega)⟩⟩
      rw [nI_1]
      obtain ⟨j1, j2, j3, j4, j5⟩ := I
      refine ih (R + 1) (by omega) c h v f6 j1 j2 j3 (fun z => ?_) j5
      rw [if_pos z] at j4
      exact j4
theorem zx_f2 {post : SX → Prop} (G : zs_Gd K A B) (P : ∀ h v f6, (∀ q, v q < 97) → zs_Lf K A B h v → post (zs_N K, zs_N A, zs_N B, zs_B h, zs_N v, f6, f7, f8)) : ∀ d i, i + d = 128 → ∀ h v f6, (∀ q, v q < 97) → (∀ q, q < i → h q = false) → wX_findAllValues_2 post (d + 1) (nI i) (zs_N K) (zs_N A) (zs_N B) (zs_B h) (zs_N v) f6 f7 f8 := by
  intro d
  induction d with
  | zero =>
    intro i hi h v f6 hv hh
    have e := zs_inv0 (K := K) (A := A) (B := B) hv (fun q hq => hh q (by omega))
    exact pk_le 128 i (fun _ => ⟨129, zx_f33 G P 128 0 rfl true h v f6 hv e.1 e.2 (fun _ => Nat.zero_le _) (fun z => nomatch z)⟩) (fun e => absurd e (by omega))
  | succ d ih =>
    intro i hi h v f6 hv hh
    have vi := vp_in_nI (show i < 128 by omega) (by decide : 128 < 2 ^ 31)
    have e1 : upd (zs_N v) (nI i).toNatClampNeg 0 = zs_N (zs_un v i 0) := by rw [nI_clamp (by omega)]; exact zs_updN _ _ _
    have e2 : upd (zs_B h) (nI i).toNatClampNeg (vp_nar .boolean 0) = zs_B (zs_ub h i false) := by rw [nI_clamp (by omega), zs_bf]; exact zs_updB _ _ _
    refine pk_le 128 i (fun e => absurd e (by omega)) (fun _ => ⟨vi, nm_r e2 ⟨vi, nm_r e1 (nm_r (nI_1 i) (ih (i + 1) (by omega) _ _ f6 (fun q => ?_) (fun q hq => ?_)))⟩⟩)
    · by_cases z : q = i
      · subst z; rw [zs_un_s]; decide
      · rw [zs_un_n z]; exact hv q
    · by_cases z : q = i
      · subst z; exact zs_ub_s
      · rw [zs_ub_n z]; exact hh q (by omega)
theorem zx_find {post : SX → Prop} (G : zs_Gd K A B) (hv : ∀ q, v q < 97) (P : ∀ h v f6, (∀ q, v q < 97) → zs_Lf K A B h v → post (zs_N K, zs_N A, zs_N B, zs_B h, zs_N v, f6, f7, f8)) : wpX_findAllValues post (zs_N K, zs_N A, zs_N B, zs_B h, zs_N v, f6, f7, f8) :=
  ⟨129, zx_f2 G P 128 0 rfl h v f6 hv (fun q hq => absurd hq (by omega))⟩
/-! Y: pass, workOut -/
theorem zy_p12 {post : Int32 → SY → Prop} {J4 : Int32 → Int32 → (Nat → Int32) → (Nat → Int32) → (Nat → Int32) → (Nat → Int32) → (Nat → Int32) → (Nat → Int32) → (Nat → Int32) → (Nat → Int32) → Prop} {n R : Nat} (G : zs_Gd K A B) (hn : n < 16) (P : ∀ c h v f7 f8, zs_Inv K A B h v R c (fun q => q < 128 ∧ q % 16 < n + 1) → J4 (zs_b c) (nI (n + 1)) (zs_N K) (zs_N A) (zs_N B) (zs_B h) (zs_N v) f6 f7 f8) : ∀ d s, s + d = 8 → ∀ c h v f7 f8, zs_Inv K A B h v R c (fun q => q < 128 ∧ (q % 16 < n ∨ (q % 16 = n ∧ q / 16 < s))) → wY_pass_12 post J4 (nI n) (d + 1) (zs_b c) (nI s) (zs_N K) (zs_N A) (zs_N B) (zs_B h) (zs_N v) f6 f7 f8 := by
  intro d
  induction d with
  | zero =>
    intro s hs c h v f7 f8 I
    refine pk_le 8 s (fun _ => nm_r (nI_1 n) (P c h v f7 f8 ?_)) (fun e => absurd e (by omega))
    obtain ⟨i1, i2, i3, i4, i5⟩ := I
    exact ⟨i1, i2, i3, i4, fun hc q hq => i5 hc q ⟨hq.1, by omega⟩⟩
  | succ d ih =>
    intro s hs c h v f7 f8 I
    have hl : s < 8 := by omega
    have hp : 16 * s + n < 128 := by omega
    have ds : (16 * s + n) / 16 = s := by omega
    have ms : (16 * s + n) % 16 = n := by omega
    have D : ∀ q, q < 128 ∧ (q % 16 < n ∨ (q % 16 = n ∧ q / 16 < s + 1)) → (q < 128 ∧ (q % 16 < n ∨ (q % 16 = n ∧ q / 16 < s))) ∨ q = 16 * s + n := fun q hq => by omega
    have ex : 16 * nI s + nI n = nI (16 * s + n) := zs_ix rfl
    have vi : vp_in (16 * nI s + nI n) 128 := pk_in _ 128 hp ex
    have nx : ∀ c h v f7 f8, zs_Inv K A B h v R c (fun q => q < 128 ∧ (q % 16 < n ∨ (q % 16 = n ∧ q / 16 < s + 1))) → wY_pass_12 post J4 (nI n) (d + 1) (zs_b c) (nI (s + 1)) (zs_N K) (zs_N A) (zs_N B) (zs_B h) (zs_N v) f6 f7 f8 := ih (s + 1) (by omega)
    have eR : zs_rul K A B v (16 * s + n) = zs_rl (K s) (A s) (B s) n v := by unfold zs_rul; rw [ds, ms]
    have eV : zs_val K A B v (16 * s + n) = zs_vl (K s) (A s) (B s) s n v := by unfold zs_val; rw [ds, ms]
    refine pk_le 8 s (fun e => absurd e (by omega)) (fun _ => ⟨vi, ?_⟩)
    cases hh : h (16 * s + n) with
    | true => exact br_f (zs_hT ex (by omega) hh) (nm_r (nI_1 s) (nx c h v f7 f8 (zs_skip I (fun _ _ => hh) D)))
    | false =>
      refine br_t (zs_hF ex (by omega) hh) (zy_ready G hl hn (fun ha => br_f (by decide) (zy_bar G hl hn I.1 ?_)) (fun ha => br_t rfl (nm_r (nI_1 s) (nx c h v f7 f8 (zs_skip I (fun z => absurd z ha) D)))))
      cases hr : zs_rl (K s) (A s) (B s) n v with
      | true => exact br_f (by decide) (nm_r (nI_1 s) (nx c h v f7 f8 (zs_skip I (fun _ z => by rw [eR, hr] at z; exact nomatch z) D)))
      | false =>
        have e1 : upd (zs_N v) (16 * nI s + nI n).toNatClampNeg (nI (zs_vl (K s) (A s) (B s) s n v)) = zs_N (zs_un v (16 * s + n) (zs_val K A B v (16 * s + n))) := by rw [ex, nI_clamp (by omega), eV]; exact zs_updN _ _ _
        have e2 : upd (zs_B h) (16 * nI s + nI n).toNatClampNeg (vp_nar .boolean 1) = zs_B (zs_ub h (16 * s + n) true) := by rw [ex, nI_clamp (by omega), zs_bn]; exact zs_updB _ _ _
        exact br_t rfl (zy_val G hl hn I.1 hr fun f g => ⟨vi, nm_r e1 ⟨vi, nm_r e2 (nm_r (nI_1 s) (nx true _ _ f g (zs_add G I hp hh ha (eR.trans hr))))⟩⟩)
theorem zy_p4 {post : Int32 → SY → Prop} {R : Nat} (G : zs_Gd K A B) (P : ∀ c h v f7 f8, zs_Inv K A B h v R c (fun q => q < 128) → post (zs_b c) (zs_N K, zs_N A, zs_N B, zs_B h, zs_N v, f6, f7, f8)) : ∀ d n, n + d = 16 → ∀ c h v f7 f8, zs_Inv K A B h v R c (fun q => q < 128 ∧ q % 16 < n) → wY_pass_4 post (d + 1) (zs_b c) (nI n) (zs_N K) (zs_N A) (zs_N B) (zs_B h) (zs_N v) f6 f7 f8 := by
  intro d
  induction d with
  | zero =>
    intro n hn c h v f7 f8 I
    refine pk_le 16 n (fun _ => ⟨by cases c <;> rfl, P c h v f7 f8 ?_⟩) (fun e => absurd e (by omega))
    obtain ⟨i1, i2, i3, i4, i5⟩ := I
    exact ⟨i1, i2, i3, i4, fun hc q hq => i5 hc q ⟨hq, by omega⟩⟩
  | succ d ih =>
    intro n hn c h v f7 f8 I
    refine pk_le 16 n (fun e => absurd e (by omega)) (fun _ => ⟨9, zy_p12 G (by omega) (fun c h v f7 f8 I => ih (n + 1) (by omega) c h v f7 f8 I) 8 0 rfl c h v f7 f8 ?_⟩)
    obtain ⟨i1, i2, i3, i4, i5⟩ := I
    exact ⟨i1, i2, i3, i4, fun hc q hq => i5 hc q ⟨hq.1, by omega⟩⟩
theorem zy_pass {post : Int32 → SY → Prop} {R : Nat} (G : zs_Gd K A B) (P : ∀ c h v f7 f8, zs_Inv K A B h v R c (fun q => q < 128) → post (zs_b c) (zs_N K, zs_N A, zs_N B, zs_B h, zs_N v, f6, f7, f8)) (I : zs_Inv K A B h v R false (fun _ => False)) : wpY_pass post (zs_N K, zs_N A, zs_N B, zs_B h, zs_N v, f6, f7, f8) := by
  obtain ⟨i1, i2, i3, i4, i5⟩ := I
  exact ⟨17, zy_p4 G P 16 0 rfl false h v f7 f8 ⟨i1, i2, i3, i4, fun hc q hq => absurd hq.2 (by omega)⟩⟩
theorem zy_w26 {post : SY → Prop} (G : zs_Gd K A B) (P : ∀ h v f7 f8, (∀ q, v q < 97) → zs_Lf K A B h v → post (zs_N K, zs_N A, zs_N B, zs_B h, zs_N v, f6, f7, f8)) : ∀ d R, R + d = 129 → ∀ c h v f7 f8, (∀ q, v q < 97) → zs_Bel K A B h v → zs_Con K A B h v → (c = true → R ≤ zs_cn h 128) → (c = false → ∀ q, q < 128 → zs_All K A B h q → zs_rul K A B v q = false → h q = true) → wY_workOut_26 post (d + 1) (zs_b c) (nI R) (zs_N K) (zs_N A) (zs_N B) (zs_B h) (zs_N v) f6 f7 f8 := by
  intro d
  induction d with
  | zero =>
    intro R hR c h v f7 f8 i1 i2 i3 i4 i5
    refine pk_le 129 R (fun _ => P h v f7 f8 i1 (zs_fin i2 i3 ?_)) (fun e => absurd e (by omega))
    cases c with
    | false => exact i5 rfl
    | true => exact fun q hq _ _ => zs_cn_all (k := 128) (by have := i4 rfl; omega) q hq
  | succ d ih =>
    intro R hR c h v f7 f8 i1 i2 i3 i4 i5
    refine pk_le 129 R (fun e => absurd e (by omega)) (fun _ => ?_)
    cases c with
    | false => exact br_t rfl (P h v f7 f8 i1 (zs_fin i2 i3 (i5 rfl)))
    | true =>
      refine br_f (by decide) (zy_pass (R := R) G (fun c h v f7 f8 I => nm_r (nI_1 R) ?_) ⟨i1, i2, i3, i4 rfl, fun _ q hq => hq.elim⟩)
      obtain ⟨j1, j2, j3, j4, j5⟩ := I
      refine ih (R + 1) (by omega) c h v f7 f8 j1 j2 j3 (fun z => ?_) j5
      rw [if_pos z] at j4
      exact j4
theorem zy_w2 {post : SY → Prop} (G : zs_Gd K A B) (hv : ∀ q, v q < 97) (P : ∀ h v f7 f8, (∀ q, v q < 97) → zs_Lf K A B h v → post (zs_N K, zs_N A, zs_N B, zs_B h, zs_N v, f6, f7, f8)) : ∀ d i, i + d = 128 → ∀ h, (∀ q, q < i → h q = false) → wY_workOut_2 post (d + 1) (nI i) (zs_N K) (zs_N A) (zs_N B) (zs_B h) (zs_N v) f6 f7 f8 := by
  intro d
  induction d with
  | zero =>
    intro i hi h hh
    have e := zs_inv0 (K := K) (A := A) (B := B) hv (fun q hq => hh q (by omega))
    exact pk_le 128 i (fun _ => ⟨130, zy_w26 G P 129 0 rfl true h v f7 f8 hv e.1 e.2 (fun _ => Nat.zero_le _) (fun z => nomatch z)⟩) (fun e => absurd e (by omega))
  | succ d ih =>
    intro i hi h hh
    have vi := vp_in_nI (show i < 128 by omega) (by decide : 128 < 2 ^ 31)
    have e2 : upd (zs_B h) (nI i).toNatClampNeg (vp_nar .boolean 0) = zs_B (zs_ub h i false) := by rw [nI_clamp (by omega), zs_bf]; exact zs_updB _ _ _
    refine pk_le 128 i (fun e => absurd e (by omega)) (fun _ => ⟨vi, nm_r e2 (nm_r (nI_1 i) (ih (i + 1) (by omega) _ (fun q hq => ?_)))⟩)
    by_cases z : q = i
    · subst z; exact zs_ub_s
    · rw [zs_ub_n z]; exact hh q (by omega)
theorem zy_work {post : SY → Prop} (G : zs_Gd K A B) (hv : ∀ q, v q < 97) (P : ∀ h v f7 f8, (∀ q, v q < 97) → zs_Lf K A B h v → post (zs_N K, zs_N A, zs_N B, zs_B h, zs_N v, f6, f7, f8)) : wpY_workOut post (zs_N K, zs_N A, zs_N B, zs_B h, zs_N v, f6, f7, f8) :=
  ⟨129, zy_w2 G hv P 128 0 rfl h (fun q hq => absurd hq (by omega))⟩
end
