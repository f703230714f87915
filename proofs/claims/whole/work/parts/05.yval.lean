section
variable {K A B : Nat → Nat} {h : Nat → Bool} {v : Nat → Nat} {f1 f2 f3 f4 f5 f6 f7 f8 : Nat → Int32}
/-! quotient -/
def zs_quoF (x y : Nat) : Nat → Nat → Nat
  | 0 => fun _ => 0
  | k + 1 => fun z => if y * z % 97 = x then z else zs_quoF x y k (z + 1)
def zs_quo (x y : Nat) : Nat := zs_quoF x y 97 0
theorem zs_quo_1 : ∀ y, y < 97 → zs_quo 1 y = zs_inv y := by decide +kernel
theorem zs_quo_n : ∀ y, y < 16 → y ≠ 0 → ∀ x, x < 97 → zs_quo x y = x * zs_inv y % 97 := by decide +kernel
theorem zy_quoL {post : Int32 → Prop} {x y : Nat} (hx : x < 97) (hy : y < 97) : ∀ k z, z + k = 97 → post (nI (zs_quoF x y k z)) → wY_quotient_2 post (nI x) (nI y) f1 f2 f3 f4 f5 f6 f7 f8 (k + 1) (nI z) := by
  intro k
  induction k with
  | zero =>
    intro z hz P
    exact pk_le 97 z (fun _ => P) (fun e => absurd e (by omega))
  | succ k ih =>
    intro z hz P
    have P' : post (nI (if y * z % 97 = x then z else zs_quoF x y k (z + 1))) := P
    have hb : y * z ≤ 96 * 97 := Nat.mul_le_mul (by omega) (by omega)
    have e : nI y * nI z - nI y * nI z / 97 * 97 = nI (y * z % 97) := by rw [pk_mul, zs_r97 (by omega)]
    refine pk_le 97 z (fun e => absurd e (by omega)) (fun _ => ⟨by decide, pk_eq (y * z % 97) x (fun c => ?_) (fun c => ?_) e⟩)
    · rw [if_pos c] at P'; exact P'
    · rw [if_neg c] at P'
      exact nm_r (nI_1 z) (ih (z + 1) (by omega) P')
theorem zy_quo {post : Int32 → Prop} {x y : Nat} (hx : x < 97) (hy : y < 97) (P : post (nI (zs_quo x y))) : wpY_quotient post (f1, f2, f3, f4, f5, f6, f7, f8) (nI x) (nI y) := ⟨98, zy_quoL hx hy 97 0 rfl P⟩
theorem zy_red {post : Int32 → Prop} (x : Int32) (P : post (nI (zs_md x))) : wpY_reduced post (f1, f2, f3, f4, f5, f6, f7, f8) x := by
  refine ⟨by decide, nm_e ?_⟩
  have e := zs_red (x := x) rfl
  refine br_c (fun c => ?_) (fun c => ?_)
  · rw [e.2 (Int32.not_lt.mpr c)]; exact P
  · rw [e.1 (Int32.not_le.mp c)]; exact P
/-! convolved -/
theorem zy_convL {post : Int32 → Prop} {s n : Nat} (hs : s < 8) (ha : A s < 8) (hb : B s < 8) (hn : n < 16) (hv : ∀ q, v q < 97) (P : post (nI (zs_sum (fun i => v (16 * A s + i) * v (16 * B s + (n - i))) (n + 1) % 97))) : ∀ d i, i + d = n + 1 → wY_convolved_5 post (nI s) (nI n) f1 (zs_N A) (zs_N B) f4 (zs_N v) f6 f7 f8 (d + 1) (nI (zs_sum (fun i => v (16 * A s + i) * v (16 * B s + (n - i))) i)) (nI i) := by
  intro d
  induction d with
  | zero =>
    intro i hi
    have e : i = n + 1 := by omega
    subst e
    refine pk_lt n (n + 1) (fun _ => ⟨by decide, ?_⟩) (fun e => absurd e (by omega))
    rw [zs_r97 (zs_sumB (fun i => zs_vv hv _ _) (by omega))]
    exact P
  | succ d ih =>
    intro i hi
    have ea : zs_N A (nI s).toNatClampNeg = nI (A s) := zs_at rfl (by omega)
    have eb : zs_N B (nI s).toNatClampNeg = nI (B s) := zs_at rfl (by omega)
    have e1 : 16 * zs_N A (nI s).toNatClampNeg + nI i = nI (16 * A s + i) := zs_ix ea
    have e2 : 16 * zs_N B (nI s).toNatClampNeg + nI n - nI i = nI (16 * B s + (n - i)) := by rw [eb, zs_16]; exact zs_i3 (by omega)
    have ei := vp_in_nI hs (by decide : 8 < 2 ^ 31)
    refine pk_lt n i (fun e => absurd e (by omega)) (fun _ => ⟨ei, pk_in (16 * A s + i) 128 (by omega) e1, ei, pk_in (16 * B s + (n - i)) 128 (by omega) e2, nm_r ?_ (nm_r (nI_1 i) (ih (i + 1) (by omega)))⟩)
    rw [zs_at e1 (by omega), zs_at e2 (by omega), pk_mul, nI_add]
    rfl
theorem zy_conv {post : Int32 → Prop} {s n : Nat} (hs : s < 8) (ha : A s < 8) (hb : B s < 8) (hn : n < 16) (hv : ∀ q, v q < 97) (P : post (nI (zs_sum (fun i => v (16 * A s + i) * v (16 * B s + (n - i))) (n + 1) % 97))) : wpY_convolved post (f1, zs_N A, zs_N B, f4, zs_N v, f6, f7, f8) (nI s) (nI n) :=
  ⟨n + 2, zy_convL hs ha hb hn hv P (n + 1) 0 (by omega)⟩
/-! reciprocal -/
theorem zs_recE {T r : Nat} (hT : T < 97) : (97 - T) * r % 97 = (97 - r * T % 97) % 97 := by
  have e : (97 - T) * r + r * T = 97 * r := by
    rw [Nat.mul_comm r T, ← Nat.add_mul]
    exact congrArg (· * r) (by omega)
  generalize (97 - T) * r = X at *
  generalize r * T = Y at *
  omega
theorem zy_recL {post : Int32 → Prop} {s n : Nat} (hs : s < 8) (ha : A s < 8) (hn : n < 16) (hv : ∀ q, v q < 97) (P : post (nI ((97 - v (16 * s) * (zs_sum (fun i => v (16 * A s + (i + 1)) * v (16 * s + (n - (i + 1)))) n % 97) % 97) % 97))) : ∀ d i, i + d = n → wY_reciprocal_32 post (nI s) (nI n) f1 (zs_N A) f3 f4 (zs_N v) f6 f7 f8 (d + 1) (nI (zs_sum (fun i => v (16 * A s + (i + 1)) * v (16 * s + (n - (i + 1)))) i)) (nI (i + 1)) := by
  intro d
  induction d with
  | zero =>
    intro i hi
    have e : i = n := by omega
    subst e
    have hS : zs_sum (fun j => v (16 * A s + (j + 1)) * v (16 * s + (i - (j + 1)))) i < 2 ^ 31 := zs_sumB (fun i => zs_vv hv _ _) (by omega)
    have hT := Nat.mod_lt (zs_sum (fun j => v (16 * A s + (j + 1)) * v (16 * s + (i - (j + 1)))) i) (by decide : 97 > 0)
    refine pk_lt i (i + 1) (fun _ => ⟨by decide, pk_in (16 * s) 128 (by omega) (zs_16 s), by decide, ?_⟩) (fun e => absurd e (by omega))
    rw [zs_at (zs_16 s) (by omega), zs_r97 hS]
    rw [← zs_recE hT] at P
    generalize zs_sum (fun j => v (16 * A s + (j + 1)) * v (16 * s + (i - (j + 1)))) i % 97 = T at *
    have e97 : (97 : Int32) - nI T = nI (97 - T) := pk_sub (a := 97) (by omega)
    have hb : (97 - T) * v (16 * s) ≤ 97 * 97 := Nat.mul_le_mul (by omega) (Nat.le_of_lt (hv _))
    rw [e97, pk_mul, zs_r97 (by omega)]
    exact P
  | succ d ih =>
    intro i hi
    have ea : zs_N A (nI s).toNatClampNeg = nI (A s) := zs_at rfl (by omega)
    have e1 : 16 * zs_N A (nI s).toNatClampNeg + nI (i + 1) = nI (16 * A s + (i + 1)) := zs_ix ea
    have e2 : 16 * nI s + nI n - nI (i + 1) = nI (16 * s + (n - (i + 1))) := by rw [zs_16]; exact zs_i3 (by omega)
    have ei := vp_in_nI hs (by decide : 8 < 2 ^ 31)
    refine pk_lt n (i + 1) (fun e => absurd e (by omega)) (fun _ => ⟨ei, pk_in (16 * A s + (i + 1)) 128 (by omega) e1, pk_in (16 * s + (n - (i + 1))) 128 (by omega) e2, nm_r ?_ (nm_r (nI_1 (i + 1)) (ih (i + 1) (by omega)))⟩)
    rw [zs_at e1 (by omega), zs_at e2 (by omega), pk_mul, nI_add]
    rfl
theorem zy_rec {post : Int32 → Prop} {s n : Nat} (hs : s < 8) (ha : A s < 8) (hn : n < 16) (hv : ∀ q, v q < 97) (P : post (nI (if n = 0 then zs_inv (v (16 * A s)) else (97 - v (16 * s) * (zs_sum (fun i => v (16 * A s + (i + 1)) * v (16 * s + (n - (i + 1)))) n % 97) % 97) % 97))) : wpY_reciprocal post (f1, zs_N A, f3, f4, zs_N v, f6, f7, f8) (nI s) (nI n) := by
  have e1 : 16 * zs_N A (nI s).toNatClampNeg = nI (16 * A s) := by rw [zs_at rfl (by omega)]; exact zs_16 _
  refine ⟨vp_in_nI hs (by decide), pk_in (16 * A s) 128 (by omega) e1, nm_r (zs_at e1 (by omega)) (pk_eq n 0 (fun c => ?_) (fun c => ?_))⟩
  · rw [if_pos c, ← zs_quo_1 _ (hv _)] at P
    exact zy_quo (x := 1) (by decide) (hv _) P
  · rw [if_neg c] at P
    exact ⟨n + 1, zy_recL hs ha hn hv P n 0 (by omega)⟩
/-! raise -/
theorem zy_r77 {post : SY → Prop} {n : Nat} {g : Nat → Nat} (hn : n < 16) (h8 : ∀ i, i ≤ n → f8 i = nI (g i)) (P : ∀ f : Nat → Int32, (∀ i, i ≤ n → f i = nI (g i)) → post (f1, f2, f3, f4, f5, f6, f, f8)) : ∀ d i, i + d = n + 1 → ∀ f7 : Nat → Int32, (∀ k, k < i → f7 k = nI (g k)) → wY_raise_77 post (nI n) (d + 1) (nI i) f1 f2 f3 f4 f5 f6 f7 f8 := by
  intro d
  induction d with
  | zero =>
    intro i hi f7 ho
    exact pk_lt n i (fun _ => P f7 (fun k hk => ho k (by omega))) (fun e => absurd e (by omega))
  | succ d ih =>
    intro i hi f7 ho
    refine pk_lt n i (fun e => absurd e (by omega)) (fun _ => pk_le 16 i (fun e => absurd e (by omega)) (fun _ => ⟨vp_in_nI (by omega) (by decide), vp_in_nI (by omega) (by decide), nm_e (nm_r (nI_1 i) (ih (i + 1) (by omega) _ fun k hk => ?_))⟩))
    rw [nI_clamp (by omega)]
    by_cases z : k = i
    · subst z; rw [pk_us]; exact h8 k (by omega)
    · rw [pk_un z]; exact ho k (by omega)
theorem zy_r19 {post : SY → Prop} {J2 : Int32 → (Nat → Int32) → (Nat → Int32) → (Nat → Int32) → (Nat → Int32) → (Nat → Int32) → (Nat → Int32) → (Nat → Int32) → (Nat → Int32) → Prop} {x2 : Int32} {b d : Nat} {g : Nat → Nat} (hb : b < 8) (hd : d < 16) (hv : ∀ q, v q < 97) (hg : ∀ i, g i < 97) (ho : ∀ i, i ≤ d → f7 i = nI (g i)) (P : J2 (nI (d + 1)) f1 f2 f3 f4 (zs_N v) f6 f7 (upd f8 d (nI (zs_sum (fun i => g i * v (16 * b + (d - i))) (d + 1) % 97)))) : ∀ m i, i + m = d + 1 → wY_raise_19 post J2 (nI b) x2 (nI d) f1 f2 f3 f4 (zs_N v) f6 f7 f8 (m + 1) (nI (zs_sum (fun i => g i * v (16 * b + (d - i))) i)) (nI i) := by
  intro m
  induction m with
  | zero =>
    intro i hi
    have e : i = d + 1 := by omega
    subst e
    refine pk_lt d (d + 1) (fun _ => ⟨by decide, vp_in_nI hd (by decide), nm_r ?_ (nm_r (nI_1 d) P)⟩) (fun e => absurd e (by omega))
    rw [zs_r97 (zs_sumB (fun i => zs_mul96 (hg _) (hv _)) (by omega)), nI_clamp (by omega)]
  | succ m ih =>
    intro i hi
    have e2 : 16 * nI b + nI d - nI i = nI (16 * b + (d - i)) := by rw [zs_16]; exact zs_i3 (by omega)
    refine pk_lt d i (fun e => absurd e (by omega)) (fun _ => ⟨vp_in_nI (by omega) (by decide), pk_in (16 * b + (d - i)) 128 (by omega) e2, nm_r ?_ (nm_r (nI_1 i) (ih (i + 1) (by omega)))⟩)
    rw [nI_clamp (by omega), ho i (by omega), zs_at e2 (by omega), pk_mul, nI_add]
    rfl
theorem zy_r2 {post : SY → Prop} {b n j : Nat} (hb : b < 8) (hn : n < 16) (hv : ∀ q, v q < 97) (ho : ∀ i, i ≤ n → f7 i = nI (zs_pw (fun d => v (16 * b + d)) j i)) (P : ∀ f g : Nat → Int32, (∀ i, i ≤ n → f i = nI (zs_pw (fun d => v (16 * b + d)) (j + 1) i)) → post (f1, f2, f3, f4, zs_N v, f6, f, g)) : ∀ d i, i + d = n + 1 → ∀ f8 : Nat → Int32, (∀ k, k < i → f8 k = nI (zs_pw (fun d => v (16 * b + d)) (j + 1) k)) → wY_raise_2 post (nI b) (nI n) (d + 1) (nI i) f1 f2 f3 f4 (zs_N v) f6 f7 f8 := by
  intro d
  induction d with
  | zero =>
    intro i hi f8 h8
    exact pk_lt n i (fun _ => ⟨n + 2, zy_r77 hn (fun k hk => h8 k (by omega)) (fun f hf => P f f8 hf) (n + 1) 0 (by omega) f7 (fun k hk => absurd hk (by omega))⟩) (fun e => absurd e (by omega))
  | succ d ih =>
    intro i hi f8 h8
    refine pk_lt n i (fun e => absurd e (by omega)) (fun _ => pk_le 16 i (fun e => absurd e (by omega)) (fun _ => ⟨i + 2, zy_r19 (g := zs_pw (fun d => v (16 * b + d)) j) hb (by omega) hv (fun i => zs_pw_lt _ _ _) (fun k hk => ho k (by omega)) (ih (i + 1) (by omega) _ fun k hk => ?_) (i + 1) 0 (by omega)⟩))
    by_cases z : k = i
    · subst z; rw [pk_us]; rfl
    · rw [pk_un z]; exact h8 k (by omega)
theorem zy_raise {post : SY → Prop} {b n j : Nat} (hb : b < 8) (hn : n < 16) (hv : ∀ q, v q < 97) (ho : ∀ i, i ≤ n → f7 i = nI (zs_pw (fun d => v (16 * b + d)) j i)) (P : ∀ f g : Nat → Int32, (∀ i, i ≤ n → f i = nI (zs_pw (fun d => v (16 * b + d)) (j + 1) i)) → post (f1, f2, f3, f4, zs_N v, f6, f, g)) : wpY_raise post (f1, f2, f3, f4, zs_N v, f6, f7, f8) (nI b) (nI n) :=
  ⟨n + 2, zy_r2 hb hn hv ho P (n + 1) 0 (by omega) f8 (fun k hk => absurd hk (by omega))⟩
/-! composed -/
theorem zy_c34 {post : Int32 → SY → Prop} {s n : Nat} (hs : s < 8) (ha : A s < 8) (hb : B s < 8) (hn : n < 16) (hv : ∀ q, v q < 97) (P : ∀ f g : Nat → Int32, post (nI (zs_sum (fun j => v (16 * A s + j) * zs_pw (fun d => v (16 * B s + d)) j n) (n + 1) % 97)) (f1, zs_N A, zs_N B, f4, zs_N v, f6, f, g)) : ∀ d j, j + d = n + 1 → ∀ f7 f8 : Nat → Int32, (∀ i, i ≤ n → f7 i = nI (zs_pw (fun d => v (16 * B s + d)) j i)) → wY_composed_34 post (nI s) (nI n) (d + 1) (nI (zs_sum (fun j => v (16 * A s + j) * zs_pw (fun d => v (16 * B s + d)) j n) j)) (nI j) f1 (zs_N A) (zs_N B) f4 (zs_N v) f6 f7 f8 := by
  intro d
  induction d with
  | zero =>
    intro j hj f7 f8 ho
    have e : j = n + 1 := by omega
    subst e
    refine pk_lt n (n + 1) (fun _ => ⟨by decide, ?_⟩) (fun e => absurd e (by omega))
    rw [zs_r97 (zs_sumB (fun i => zs_mul96 (hv _) (zs_pw_lt _ _ _)) (by omega))]
    exact P f7 f8
  | succ d ih =>
    intro j hj f7 f8 ho
    have ea : zs_N A (nI s).toNatClampNeg = nI (A s) := zs_at rfl (by omega)
    have eb : zs_N B (nI s).toNatClampNeg = nI (B s) := zs_at rfl (by omega)
    have e1 : 16 * zs_N A (nI s).toNatClampNeg + nI j = nI (16 * A s + j) := zs_ix ea
    have ei := vp_in_nI hs (by decide : 8 < 2 ^ 31)
    refine pk_lt n j (fun e => absurd e (by omega)) (fun _ => ⟨ei, pk_in (16 * A s + j) 128 (by omega) e1, vp_in_nI hn (by decide), nm_r (e' := nI (zs_sum (fun j => v (16 * A s + j) * zs_pw (fun d => v (16 * B s + d)) j n) (j + 1))) ?_ ⟨ei, ?_⟩⟩)
    · rw [zs_at e1 (by omega), nI_clamp (by omega), ho n (Nat.le_refl n), pk_mul, nI_add]
      rfl
    · rw [eb]
      exact zy_raise hb hn hv ho fun f g hf => nm_r (nI_1 j) (ih (j + 1) (by omega) f g hf)
theorem zy_c2 {post : Int32 → SY → Prop} {s n : Nat} (hs : s < 8) (ha : A s < 8) (hb : B s < 8) (hn : n < 16) (hv : ∀ q, v q < 97) (P : ∀ f g : Nat → Int32, post (nI (zs_sum (fun j => v (16 * A s + j) * zs_pw (fun d => v (16 * B s + d)) j n) (n + 1) % 97)) (f1, zs_N A, zs_N B, f4, zs_N v, f6, f, g)) : ∀ d i, i + d = 16 → ∀ f7 : Nat → Int32, (∀ k, k < i → f7 k = nI (zs_pw (fun d => v (16 * B s + d)) 0 k)) → wY_composed_2 post (nI s) (nI n) (d + 1) (nI i) f1 (zs_N A) (zs_N B) f4 (zs_N v) f6 f7 f8 := by
  intro d
  induction d with
  | zero =>
    intro i hi f7 ho
    exact pk_le 16 i (fun _ => ⟨n + 2, zy_c34 hs ha hb hn hv P (n + 1) 0 (by omega) f7 f8 (fun k hk => ho k (by omega))⟩) (fun e => absurd e (by omega))
  | succ d ih =>
    intro i hi f7 ho
    refine pk_le 16 i (fun e => absurd e (by omega)) (fun _ => pk_eq i 0 (fun c => ⟨vp_in_nI (by omega) (by decide), nm_e (nm_r (nI_1 i) (ih (i + 1) (by omega) _ fun k hk => ?_))⟩) (fun c => ⟨vp_in_nI (by omega) (by decide), nm_e (nm_r (nI_1 i) (ih (i + 1) (by omega) _ fun k hk => ?_))⟩))
    · rw [nI_clamp (by omega)]
      by_cases z : k = i
      · subst z; rw [pk_us]; subst c; rfl
      · rw [pk_un z]; exact ho k (by omega)
    · rw [nI_clamp (by omega)]
      by_cases z : k = i
      · subst z; rw [pk_us]
        show (0 : Int32) = nI (if k = 0 then 1 else 0)
        rw [if_neg c]; rfl
      · rw [pk_un z]; exact ho k (by omega)
theorem zy_comp {post : Int32 → SY → Prop} {s n : Nat} (hs : s < 8) (ha : A s < 8) (hb : B s < 8) (hn : n < 16) (hv : ∀ q, v q < 97) (P : ∀ f g : Nat → Int32, post (nI (zs_sum (fun j => v (16 * A s + j) * zs_pw (fun d => v (16 * B s + d)) j n) (n + 1) % 97)) (f1, zs_N A, zs_N B, f4, zs_N v, f6, f, g)) : wpY_composed post (f1, zs_N A, zs_N B, f4, zs_N v, f6, f7, f8) (nI s) (nI n) :=
  ⟨17, zy_c2 hs ha hb hn hv P 16 0 rfl f7 (fun k hk => absurd hk (by omega))⟩
/-! barren -/
theorem zy_bar {post : Int32 → Prop} (G : zs_Gd K A B) {s n : Nat} (hs : s < 8) (hn : n < 16) (hv : ∀ q, v q < 97) (P : post (zs_b (zs_rl (K s) (A s) (B s) n v))) : wpY_barren post (zs_N K, zs_N A, zs_N B, f4, zs_N v, f6, f7, f8) (nI s) (nI n) := by
  obtain ⟨g1, g2, g3, g4⟩ := G s hs
  have ei := vp_in_nI hs (by decide : 8 < 2 ^ 31)
  have ek : zs_N K (nI s).toNatClampNeg = nI (K s) := zs_at rfl (by omega)
  have ea : 16 * zs_N A (nI s).toNatClampNeg = nI (16 * A s) := by rw [zs_at rfl (by omega)]; exact zs_16 _
  have eb : 16 * zs_N B (nI s).toNatClampNeg = nI (16 * B s) := by rw [zs_at rfl (by omega)]; exact zs_16 _
  have h1 := hv (16 * A s)
  have h2 := hv (16 * B s)
  refine ⟨ei, pk_eq (K s) 5 (fun c => ?_) (fun c => ⟨ei, pk_eq (K s) 7 (fun c7 => ?_) (fun c7 => ⟨ei, pk_eq (K s) 9 (fun c9 => ?_) (fun c9 => ?_) ek⟩) ek⟩) ek⟩
  · rw [c] at P
    have Q2 : post (zs_b (decide (n = 15))) := P
    refine pk_eq n 15 (fun e => ?_) (fun e => ?_)
    · rw [decide_eq_true e] at Q2; exact Q2
    · rw [decide_eq_false e] at Q2; exact Q2
  · rw [c7] at P
    have Q2 : post (zs_b (decide (v (16 * A s) = 0))) := P
    refine ⟨ei, pk_in (16 * A s) 128 (by omega) ea, pk_eq (v (16 * A s)) 0 (fun e => ?_) (fun e => ?_) (zs_at ea (by omega))⟩
    · rw [decide_eq_true e] at Q2; exact Q2
    · rw [decide_eq_false e] at Q2; exact Q2
  · have g5 : B s < 8 := g4 (by omega)
    rw [c9] at P
    have Q2 : post (zs_b (decide (v (16 * B s) ≠ 0))) := P
    refine ⟨ei, pk_in (16 * B s) 128 (by omega) eb, pk_eq (v (16 * B s)) 0 (fun e => ?_) (fun e => ?_) (zs_at eb (by omega))⟩
    · rw [decide_eq_false (fun z => z e)] at Q2; exact Q2
    · rw [decide_eq_true e] at Q2; exact Q2
  · generalize K s = k at *
    rcases zs_k10 g1 with rfl | rfl | rfl | rfl | rfl | rfl | rfl | rfl | rfl | rfl
    all_goals first | exact P | exact absurd rfl c | exact absurd rfl c7 | exact absurd rfl c9
/-! worked -/
theorem zy_val {post : Int32 → SY → Prop} (G : zs_Gd K A B) {s n : Nat} (hs : s < 8) (hn : n < 16) (hv : ∀ q, v q < 97) (hr : zs_rl (K s) (A s) (B s) n v = false) (P : ∀ f g : Nat → Int32, post (nI (zs_vl (K s) (A s) (B s) s n v)) (zs_N K, zs_N A, zs_N B, f4, zs_N v, f6, f, g)) : wpY_worked post (zs_N K, zs_N A, zs_N B, f4, zs_N v, f6, f7, f8) (nI s) (nI n) := by
  obtain ⟨g1, g2, g3, g4⟩ := G s hs
  have ei := vp_in_nI hs (by decide : 8 < 2 ^ 31)
  have ea : 16 * zs_N A (nI s).toNatClampNeg = nI (16 * A s) := by rw [zs_at rfl (by omega)]; exact zs_16 _
  have eb : 16 * zs_N B (nI s).toNatClampNeg = nI (16 * B s) := by rw [zs_at rfl (by omega)]; exact zs_16 _
  have eB : zs_N B (nI s).toNatClampNeg = nI (B s) := zs_at rfl (by omega)
  refine ⟨ei, nm_r (zs_at rfl (by omega)) ⟨ei, nm_r ea ?_⟩⟩
  have Q := P f7 f8
  generalize zs_N K = fK at *
  generalize K s = k at *
  have e1 : nI (16 * A s) + nI n = nI (16 * A s + n) := nI_add _ _
  rcases zs_k10 g1 with rfl | rfl | rfl | rfl | rfl | rfl | rfl | rfl | rfl | rfl
  · have R : post (nI (if n = 0 then B s else 0)) (fK, zs_N A, zs_N B, f4, zs_N v, f6, f7, f8) := Q
    refine br_t (by decide) (pk_eq n 0 (fun c => ⟨ei, ?_⟩) (fun c => ?_))
    · rw [if_pos c] at R; rw [eB]; exact R
    · rw [if_neg c] at R; exact R
  · have R : post (nI (if n = 1 then 1 else 0)) (fK, zs_N A, zs_N B, f4, zs_N v, f6, f7, f8) := Q
    refine br_f (by decide) (br_t (by decide) (pk_eq n 1 (fun c => ?_) (fun c => ?_)))
    · rw [if_pos c] at R; exact R
    · rw [if_neg c] at R; exact R
  · have g5 : B s < 8 := g4 (by decide)
    have e2 : 16 * zs_N B (nI s).toNatClampNeg + nI n = nI (16 * B s + n) := zs_ix eB
    refine br_f (by decide) (br_f (by decide) (br_t (by decide) ⟨pk_in (16 * A s + n) 128 (by omega) e1, ei, pk_in (16 * B s + n) 128 (by omega) e2, by decide, ?_⟩))
    have h1 := hv (16 * A s + n)
    have h2 := hv (16 * B s + n)
    rw [zs_at e1 (by omega), zs_at e2 (by omega), nI_add, zs_r97 (by omega)]
    exact Q
  · exact br_f (by decide) (br_f (by decide) (br_f (by decide) (br_t (by decide) (zy_conv hs g2 (g4 (by decide)) hn hv Q))))
  · refine br_f (by decide) (br_f (by decide) (br_f (by decide) (br_f (by decide) (br_t (by decide) ⟨ei, pk_in (16 * A s + n) 128 (by omega) e1, by decide, ?_⟩))))
    have h1 := zs_mul96 g3 (hv (16 * A s + n))
    rw [zs_at e1 (by omega), eB, pk_mul, zs_r97 (by omega)]
    exact Q
  · have hr2 : decide (n = 15) = false := hr
    have hr3 : ¬ n = 15 := of_decide_eq_false hr2
    have R : post (nI (if n + 1 < 16 then (n + 1) * v (16 * A s + (n + 1)) % 97 else 0)) (fK, zs_N A, zs_N B, f4, zs_N v, f6, f7, f8) := Q
    rw [if_pos (by omega)] at R
    have e3 : nI (16 * A s) + nI n + 1 = nI (16 * A s + (n + 1)) := by rw [nI_add, nI_1]; rfl
    refine br_f (by decide) (br_f (by decide) (br_f (by decide) (br_f (by decide) (br_f (by decide) (br_t (by decide) ⟨pk_in (16 * A s + (n + 1)) 128 (by omega) e3, by decide, ?_⟩)))))
    have h1 := zs_mul96 (show n + 1 < 97 by omega) (hv (16 * A s + (n + 1)))
    rw [zs_at e3 (by omega), nI_1, pk_mul, zs_r97 (by omega)]
    exact R
  · have R : post (nI (if n = 0 then B s else v (16 * A s + (n - 1)) * zs_inv n % 97)) (fK, zs_N A, zs_N B, f4, zs_N v, f6, f7, f8) := Q
    refine br_f (by decide) (br_f (by decide) (br_f (by decide) (br_f (by decide) (br_f (by decide) (br_f (by decide) (br_f (by decide) (br_f (by decide) (pk_eq n 0 (fun c => ⟨ei, ?_⟩) (fun c => br_f (by decide) ?_)))))))))
    · rw [if_pos c] at R; rw [eB]; exact R
    · rw [if_neg c] at R
      have e3 : nI (16 * A s) + nI n - 1 = nI (16 * A s + (n - 1)) := zs_i3 (i := 1) (by omega)
      rw [← zs_quo_n n hn c _ (hv _)] at R
      refine ⟨pk_in (16 * A s + (n - 1)) 128 (by omega) e3, ?_⟩
      rw [zs_at e3 (by omega)]
      exact zy_quo (hv _) (by omega) R
  · exact br_f (by decide) (br_f (by decide) (br_f (by decide) (br_f (by decide) (br_f (by decide) (br_f (by decide) (br_t (by decide) (zy_rec hs g2 hn hv Q)))))))
  · have R : post (nI (if n = 0 then B s else v (16 * A s + (n - 1)))) (fK, zs_N A, zs_N B, f4, zs_N v, f6, f7, f8) := Q
    refine br_f (by decide) (br_f (by decide) (br_f (by decide) (br_f (by decide) (br_f (by decide) (br_f (by decide) (br_f (by decide) (br_f (by decide) (pk_eq n 0 (fun c => ⟨ei, ?_⟩) (fun c => br_t (by decide) ?_)))))))))
    · rw [if_pos c] at R; rw [eB]; exact R
    · rw [if_neg c] at R
      have e3 : nI (16 * A s) + nI n - 1 = nI (16 * A s + (n - 1)) := zs_i3 (i := 1) (by omega)
      refine ⟨pk_in (16 * A s + (n - 1)) 128 (by omega) e3, ?_⟩
      rw [zs_at e3 (by omega)]
      exact R
  · exact br_f (by decide) (br_f (by decide) (br_f (by decide) (br_f (by decide) (br_f (by decide) (br_f (by decide) (br_f (by decide) (br_t (by decide) (zy_comp hs g2 (g4 (by decide)) hn hv P))))))))
end
