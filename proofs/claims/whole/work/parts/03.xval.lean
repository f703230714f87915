section
variable {K A B : Nat → Nat} {h : Nat → Bool} {v : Nat → Nat} {f1 f2 f3 f4 f5 f6 f7 f8 : Nat → Int32}
theorem zs_sumB {F : Nat → Nat} (hF : ∀ i, F i ≤ 9216) {k : Nat} (hk : k ≤ 17) : zs_sum F k < 2 ^ 31 := by
  have a := zs_sum_le (f := F) (M := 9216) (k := k) (fun i _ => hF i)
  have b : k * 9216 ≤ 17 * 9216 := Nat.mul_le_mul_right _ hk
  omega
theorem zs_vv {v : Nat → Nat} (hv : ∀ q, v q < 97) (i j : Nat) : v i * v j ≤ 9216 := zs_mul96 (hv i) (hv j)
/-! productValue -/
theorem zx_prodL {post : Int32 → Prop} {a b n : Nat} (ha : a < 8) (hb : b < 8) (hn : n < 16) (hv : ∀ q, v q < 97) (P : post (nI (zs_sum (fun i => v (16 * a + i) * v (16 * b + (n - i))) (n + 1) % 97))) : ∀ d i, i + d = n + 1 → wX_productValue_6 post (nI (16 * a)) (nI (16 * b)) (nI n) f1 f2 f3 f4 (zs_N v) f6 f7 f8 (d + 1) (nI (zs_sum (fun i => v (16 * a + i) * v (16 * b + (n - i))) i)) (nI i) := by
  intro d
  induction d with
  | zero =>
    intro i hi
    have e : i = n + 1 := by omega
    subst e
    refine pk_lt n (n + 1) (fun _ => ⟨by decide, ?_⟩) (fun e => absurd e (by omega))
    rw [zs_r97 (zs_sumB (fun i => zs_vv hv _ _) (by omega))]
    exact P
  | succ d ih =>
    intro i hi
    have e1 : nI (16 * a) + nI i = nI (16 * a + i) := nI_add _ _
    have e2 : nI (16 * b) + nI n - nI i = nI (16 * b + (n - i)) := zs_i3 (by omega)
    refine pk_lt n i (fun e => absurd e (by omega)) (fun _ => ⟨pk_in (16 * a + i) 128 (by omega) e1, pk_in (16 * b + (n - i)) 128 (by omega) e2, nm_r ?_ (nm_r (nI_1 i) (ih (i + 1) (by omega)))⟩)
    rw [zs_at e1 (by omega), zs_at e2 (by omega), pk_mul, nI_add]
    rfl
theorem zx_prod {post : Int32 → Prop} {a b n : Nat} (ha : a < 8) (hb : b < 8) (hn : n < 16) (hv : ∀ q, v q < 97) (P : post (nI (zs_sum (fun i => v (16 * a + i) * v (16 * b + (n - i))) (n + 1) % 97))) : wpX_productValue post (f1, f2, f3, f4, zs_N v, f6, f7, f8) (nI (16 * a)) (nI (16 * b)) (nI n) :=
  ⟨n + 2, zx_prodL ha hb hn hv P (n + 1) 0 (by omega)⟩
/-! inverse, reduced -/
theorem zx_invL {post : Int32 → Prop} {a : Nat} (ha : a < 97) : ∀ k z, z + k = 97 → post (nI (zs_invF a k z)) → wX_inverse_2 post (nI a) (k + 1) (nI z) := by
  intro k
  induction k with
  | zero =>
    intro z hz P
    exact pk_le 97 z (fun _ => P) (fun e => absurd e (by omega))
  | succ k ih =>
    intro z hz P
    have P' : post (nI (if a * z % 97 = 1 then z else zs_invF a k (z + 1))) := P
    have hb : a * z ≤ 96 * 97 := Nat.mul_le_mul (by omega) (by omega)
    have e : nI a * nI z - nI a * nI z / 97 * 97 = nI (a * z % 97) := by rw [pk_mul, zs_r97 (by omega)]
    refine pk_le 97 z (fun e => absurd e (by omega)) (fun _ => ⟨by decide, pk_eq (a * z % 97) 1 (fun c => ?_) (fun c => ?_) e⟩)
    · rw [if_pos c] at P'; exact P'
    · rw [if_neg c] at P'
      exact nm_r (nI_1 z) (ih (z + 1) (by omega) P')
theorem zx_inv {post : Int32 → Prop} {a : Nat} (ha : a < 97) (P : post (nI (zs_inv a))) : wpX_inverse post (nI a) := ⟨97, zx_invL ha 96 1 rfl P⟩
theorem zx_red {post : Int32 → Prop} (x : Int32) (P : post (nI (zs_md x))) : wpX_reduced post x := by
  refine ⟨by decide, nm_e ?_⟩
  have e := zs_red (x := x) rfl
  refine br_c (fun c => ?_) (fun c => ?_)
  · rw [e.2 (Int32.not_lt.mpr c)]; exact P
  · rw [e.1 (Int32.not_le.mp c)]; exact P
/-! reciprocalValue -/
theorem zx_recL {post : Int32 → Prop} {a s n : Nat} (ha : a < 8) (hs : s < 8) (hn : n < 16) (hv : ∀ q, v q < 97) (P : post (nI ((97 - v (16 * s) * (zs_sum (fun i => v (16 * a + (i + 1)) * v (16 * s + (n - (i + 1)))) n % 97) % 97) % 97))) : ∀ d i, i + d = n → wX_reciprocalValue_20 post (nI (16 * a)) (nI (16 * s)) (nI n) f1 f2 f3 f4 (zs_N v) f6 f7 f8 (d + 1) (nI (zs_sum (fun i => v (16 * a + (i + 1)) * v (16 * s + (n - (i + 1)))) i)) (nI (i + 1)) := by
  intro d
  induction d with
  | zero =>
    intro i hi
    have e : i = n := by omega
    subst e
    refine pk_lt i (i + 1) (fun _ => ⟨vp_in_nI (by omega) (by decide), by decide, zx_red _ ?_⟩) (fun e => absurd e (by omega))
    have hS : zs_sum (fun j => v (16 * a + (j + 1)) * v (16 * s + (i - (j + 1)))) i < 2 ^ 31 := zs_sumB (fun i => zs_vv hv _ _) (by omega)
    rw [zs_at rfl (by omega), zs_r97 hS, Int32.neg_mul, pk_mul]
    have hb := zs_mul96 (hv (16 * s)) (Nat.mod_lt (zs_sum (fun j => v (16 * a + (j + 1)) * v (16 * s + (i - (j + 1)))) i) (by decide : 97 > 0))
    rw [zs_md_neg (by omega)]
    exact P
  | succ d ih =>
    intro i hi
    have e1 : nI (16 * a) + nI (i + 1) = nI (16 * a + (i + 1)) := nI_add _ _
    have e2 : nI (16 * s) + nI n - nI (i + 1) = nI (16 * s + (n - (i + 1))) := zs_i3 (by omega)
    refine pk_lt n (i + 1) (fun e => absurd e (by omega)) (fun _ => ⟨pk_in (16 * a + (i + 1)) 128 (by omega) e1, pk_in (16 * s + (n - (i + 1))) 128 (by omega) e2, nm_r ?_ (nm_r (nI_1 (i + 1)) (ih (i + 1) (by omega)))⟩)
    rw [zs_at e1 (by omega), zs_at e2 (by omega), pk_mul, nI_add]
    rfl
theorem zx_rec {post : Int32 → Prop} {a s n : Nat} (ha : a < 8) (hs : s < 8) (hn : n < 16) (hv : ∀ q, v q < 97) (P : post (nI (if n = 0 then zs_inv (v (16 * a)) else (97 - v (16 * s) * (zs_sum (fun i => v (16 * a + (i + 1)) * v (16 * s + (n - (i + 1)))) n % 97) % 97) % 97))) : wpX_reciprocalValue post (f1, f2, f3, f4, zs_N v, f6, f7, f8) (nI (16 * a)) (nI (16 * s)) (nI n) := by
  refine pk_eq n 0 (fun c => ?_) (fun c => ?_)
  · rw [if_pos c] at P
    refine ⟨vp_in_nI (by omega) (by decide), ?_⟩
    rw [zs_at rfl (by omega)]
    exact zx_inv (hv _) P
  · rw [if_neg c] at P
    exact ⟨n + 1, zx_recL ha hs hn hv P n 0 (by omega)⟩
/-! raisePower -/
theorem zx_r12 {post : SX → Prop} {J2 : Int32 → (Nat → Int32) → (Nat → Int32) → (Nat → Int32) → (Nat → Int32) → (Nat → Int32) → (Nat → Int32) → (Nat → Int32) → (Nat → Int32) → Prop} {b d : Nat} {g : Nat → Nat} (hb : b < 8) (hd : d < 16) (hv : ∀ q, v q < 97) (hg : ∀ i, g i < 97) (ho : ∀ i, i ≤ d → f6 i = nI (g i)) (P : J2 (nI d + (-1)) f1 f2 f3 f4 (zs_N v) (upd f6 d (nI (zs_sum (fun i => g i * v (16 * b + (d - i))) (d + 1) % 97))) f7 f8) : ∀ m i, i + m = d + 1 → wX_raisePower_12 post J2 (nI (16 * b)) (nI d) f1 f2 f3 f4 (zs_N v) f6 f7 f8 (m + 1) (nI (zs_sum (fun i => g i * v (16 * b + (d - i))) i)) (nI i) := by
  intro m
  induction m with
  | zero =>
    intro i hi
    have e : i = d + 1 := by omega
    subst e
    refine pk_lt d (d + 1) (fun _ => ⟨by decide, vp_in_nI hd (by decide), nm_r ?_ (nm_e P)⟩) (fun e => absurd e (by omega))
    rw [zs_r97 (zs_sumB (fun i => zs_mul96 (hg _) (hv _)) (by omega)), nI_clamp (by omega)]
  | succ m ih =>
    intro i hi
    have e2 : nI (16 * b) + nI d - nI i = nI (16 * b + (d - i)) := zs_i3 (by omega)
    refine pk_lt d i (fun e => absurd e (by omega)) (fun _ => ⟨vp_in_nI (by omega) (by decide), pk_in (16 * b + (d - i)) 128 (by omega) e2, nm_r ?_ (nm_r (nI_1 i) (ih (i + 1) (by omega)))⟩)
    rw [nI_clamp (by omega), ho i (by omega), zs_at e2 (by omega), pk_mul, nI_add]
    rfl
theorem zx_r2 {post : SX → Prop} {b n j : Nat} (hb : b < 8) (hn : n < 16) (hv : ∀ q, v q < 97) (P : ∀ f : Nat → Int32, (∀ i, i ≤ n → f i = nI (zs_pw (fun d => v (16 * b + d)) (j + 1) i)) → post (f1, f2, f3, f4, zs_N v, f, f7, f8)) : ∀ d, d ≤ n → ∀ f6 : Nat → Int32, (∀ i, i ≤ d → f6 i = nI (zs_pw (fun d => v (16 * b + d)) j i)) → (∀ i, d < i → i ≤ n → f6 i = nI (zs_pw (fun d => v (16 * b + d)) (j + 1) i)) → wX_raisePower_2 post (nI (16 * b)) (d + 2) (nI d) f1 f2 f3 f4 (zs_N v) f6 f7 f8 := by
  intro d
  induction d with
  | zero =>
    intro hd f6 ho hw
    refine br_f (nI_pos (by decide)) ⟨2, zx_r12 (g := zs_pw (fun d => v (16 * b + d)) j) hb (by omega) hv (fun i => zs_pw_lt _ _ _) ho ?_ 1 0 rfl⟩
    refine br_t (by decide) (P _ fun i hi => ?_)
    by_cases z : i = 0
    · subst z; rw [pk_us]; rfl
    · rw [pk_un z]; exact hw i (by omega) hi
  | succ d ih =>
    intro hd f6 ho hw
    refine br_f (nI_pos (by omega)) ⟨d + 3, zx_r12 (g := zs_pw (fun d => v (16 * b + d)) j) hb (by omega) hv (fun i => zs_pw_lt _ _ _) ho ?_ (d + 2) 0 (by omega)⟩
    rw [pk_m1]
    refine ih (by omega) _ (fun i hi => ?_) (fun i hi hi2 => ?_)
    · rw [pk_un (by omega)]; exact ho i (by omega)
    · by_cases z : i = d + 1
      · subst z; rw [pk_us]; rfl
      · rw [pk_un z]; exact hw i (by omega) hi2
theorem zx_raise {post : SX → Prop} {b n j : Nat} (hb : b < 8) (hn : n < 16) (hv : ∀ q, v q < 97) (ho : ∀ i, i ≤ n → f6 i = nI (zs_pw (fun d => v (16 * b + d)) j i)) (P : ∀ f : Nat → Int32, (∀ i, i ≤ n → f i = nI (zs_pw (fun d => v (16 * b + d)) (j + 1) i)) → post (f1, f2, f3, f4, zs_N v, f, f7, f8)) : wpX_raisePower post (f1, f2, f3, f4, zs_N v, f6, f7, f8) (nI (16 * b)) (nI n) :=
  ⟨n + 2, zx_r2 hb hn hv P n (Nat.le_refl n) f6 ho (fun i a b => absurd a (by omega))⟩
/-! composedValue -/
theorem zx_c48 {post : Int32 → SX → Prop} {a b n : Nat} (ha : a < 8) (hb : b < 8) (hn : n < 16) (hv : ∀ q, v q < 97) (P : ∀ f : Nat → Int32, post (nI (zs_sum (fun j => v (16 * a + j) * zs_pw (fun d => v (16 * b + d)) j n) (n + 1) % 97)) (f1, f2, f3, f4, zs_N v, f, f7, f8)) : ∀ d j, j + d = n → ∀ f6 : Nat → Int32, (∀ i, i ≤ n → f6 i = nI (zs_pw (fun d => v (16 * b + d)) j i)) → wX_composedValue_48 post (nI (16 * a)) (nI (16 * b)) (nI n) (d + 1) (nI (zs_sum (fun j => v (16 * a + j) * zs_pw (fun d => v (16 * b + d)) j n) (j + 1))) (nI (j + 1)) f1 f2 f3 f4 (zs_N v) f6 f7 f8 := by
  intro d
  induction d with
  | zero =>
    intro j hj f6 ho
    have e : j = n := by omega
    subst e
    refine pk_lt j (j + 1) (fun _ => ⟨by decide, ?_⟩) (fun e => absurd e (by omega))
    rw [zs_r97 (zs_sumB (fun i => zs_mul96 (hv _) (zs_pw_lt _ _ _)) (by omega))]
    exact P f6
  | succ d ih =>
    intro j hj f6 ho
    refine pk_lt n (j + 1) (fun e => absurd e (by omega)) (fun _ => zx_raise hb hn hv ho fun f hf => ?_)
    have e1 : nI (16 * a) + nI (j + 1) = nI (16 * a + (j + 1)) := nI_add _ _
    refine ⟨pk_in (16 * a + (j + 1)) 128 (by omega) e1, vp_in_nI hn (by decide), nm_r ?_ (nm_r (nI_1 (j + 1)) (ih (j + 1) (by omega) f hf))⟩
    rw [zs_at e1 (by omega), nI_clamp (by omega), hf n (Nat.le_refl n), pk_mul, nI_add]
    rfl
theorem zx_c10 {post : Int32 → SX → Prop} {a b n : Nat} (ha : a < 8) (hb : b < 8) (hn : n < 16) (hv : ∀ q, v q < 97) (P : ∀ f : Nat → Int32, post (nI (zs_sum (fun j => v (16 * a + j) * zs_pw (fun d => v (16 * b + d)) j n) (n + 1) % 97)) (f1, f2, f3, f4, zs_N v, f, f7, f8)) : ∀ d i, i + d = n → ∀ f6 : Nat → Int32, (∀ k, k ≤ i → f6 k = nI (zs_pw (fun d => v (16 * b + d)) 0 k)) → wX_composedValue_10 post (nI (16 * a)) (nI (16 * b)) (nI n) (d + 1) (nI (i + 1)) f1 f2 f3 f4 (zs_N v) f6 f7 f8 := by
  intro d
  induction d with
  | zero =>
    intro i hi f6 ho
    have e : i = n := by omega
    subst e
    refine pk_lt i (i + 1) (fun _ => ⟨vp_in_nI (by omega) (by decide), vp_in_nI hn (by decide), nm_r ?_ ⟨i + 1, zx_c48 ha hb hn hv P i 0 (by omega) f6 ho⟩⟩) (fun e => absurd e (by omega))
    rw [zs_at rfl (by omega), nI_clamp (by omega), ho i (Nat.le_refl i), pk_mul]
    exact congrArg nI (Nat.zero_add _).symm
  | succ d ih =>
    intro i hi f6 ho
    refine pk_lt n (i + 1) (fun e => absurd e (by omega)) (fun _ => ⟨vp_in_nI (by omega) (by decide), nm_e (nm_r (nI_1 (i + 1)) (ih (i + 1) (by omega) _ fun k hk => ?_))⟩)
    rw [nI_clamp (by omega)]
    by_cases z : k = i + 1
    · subst z; rw [pk_us]; rfl
    · rw [pk_un z]; exact ho k (by omega)
theorem zx_comp {post : Int32 → SX → Prop} {a b n : Nat} (ha : a < 8) (hb : b < 8) (hn : n < 16) (hv : ∀ q, v q < 97) (P : ∀ f : Nat → Int32, post (nI (zs_sum (fun j => v (16 * a + j) * zs_pw (fun d => v (16 * b + d)) j n) (n + 1) % 97)) (f1, f2, f3, f4, zs_N v, f, f7, f8)) : wpX_composedValue post (f1, f2, f3, f4, zs_N v, f6, f7, f8) (nI (16 * a)) (nI (16 * b)) (nI n) := by
  refine nm_e ⟨n + 1, zx_c10 ha hb hn hv P n 0 (by omega) _ fun k hk => ?_⟩
  have z : k = 0 := by omega
  subst z
  exact pk_us
/-! valueAt -/
theorem zx_val {post : Int32 → SX → Prop} (G : zs_Gd K A B) {p : Nat} (hp : p < 128) (hv : ∀ q, v q < 97) (P : ∀ f : Nat → Int32, post (nI (zs_val K A B v p)) (zs_N K, zs_N A, zs_N B, f4, zs_N v, f, f7, f8)) : wpX_valueAt post (zs_N K, zs_N A, zs_N B, f4, zs_N v, f6, f7, f8) (nI p) := by
  have hs : p / 16 < 8 := by omega
  obtain ⟨g1, g2, g3, g4⟩ := G (p / 16) hs
  have ea : 16 * zs_N A (nI (p / 16)).toNatClampNeg = nI (16 * A (p / 16)) := by rw [zs_at rfl (by omega)]; exact zs_16 _
  have eb : 16 * zs_N B (nI (p / 16)).toNatClampNeg = nI (16 * B (p / 16)) := by rw [zs_at rfl (by omega)]; exact zs_16 _
  have ei := vp_in_nI hs (by decide : 8 < 2 ^ 31)
  refine ⟨by decide, nm_r (zs_d16 hp) ⟨by decide, nm_r (zs_m16 hp) ⟨ei, nm_r (zs_at rfl (by omega)) ⟨ei, nm_r ea ⟨ei, nm_r eb ⟨ei, nm_r (zs_at rfl (by omega)) ?_⟩⟩⟩⟩⟩⟩
  have Q : ∀ f : Nat → Int32, post (nI (zs_vl (K (p / 16)) (A (p / 16)) (B (p / 16)) (p / 16) (p % 16) v)) (zs_N K, zs_N A, zs_N B, f4, zs_N v, f, f7, f8) := P
  have hn : p % 16 < 16 := by omega
  generalize zs_N K = fK at *
  generalize zs_N A = fA at *
  generalize zs_N B = fB at *
  generalize K (p / 16) = k at *
  generalize A (p / 16) = a at *
  generalize B (p / 16) = b at *
  generalize p % 16 = n at *
  generalize p / 16 = s at *
  have ha : ∀ m, m < 16 → 16 * a + m < 128 := fun m hm => by omega
  rcases zs_k10 g1 with rfl | rfl | rfl | rfl | rfl | rfl | rfl | rfl | rfl | rfl
  · refine br_f (by decide) (br_f (by decide) (br_t (by decide) (pk_eq n 0 (fun c => ?_) (fun c => ?_))))
    · have R : post (nI (if n = 0 then b else 0)) _ := Q f6
      rw [if_pos c] at R; exact R
    · have R : post (nI (if n = 0 then b else 0)) _ := Q f6
      rw [if_neg c] at R; exact R
  · refine br_f (by decide) (br_f (by decide) (br_f (by decide) (br_t (by decide) (pk_eq n 1 (fun c => ?_) (fun c => ?_)))))
    · have R : post (nI (if n = 1 then 1 else 0)) _ := Q f6
      rw [if_pos c] at R; exact R
    · have R : post (nI (if n = 1 then 1 else 0)) _ := Q f6
      rw [if_neg c] at R; exact R
  · have g5 : b < 8 := g4 (by decide)
    have e1 : nI (16 * a) + nI n = nI (16 * a + n) := nI_add _ _
    have e2 : nI (16 * b) + nI n = nI (16 * b + n) := nI_add _ _
    refine br_f (by decide) (br_f (by decide) (br_f (by decide) (br_f (by decide) (br_t (by decide) ⟨pk_in (16 * a + n) 128 (by omega) e1, pk_in (16 * b + n) 128 (by omega) e2, by decide, ?_⟩))))
    have h1 := hv (16 * a + n)
    have h2 := hv (16 * b + n)
    rw [zs_at e1 (by omega), zs_at e2 (by omega), nI_add, zs_r97 (by omega)]
    exact Q f6
  · exact br_f (by decide) (br_f (by decide) (br_f (by decide) (br_f (by decide) (br_f (by decide) (br_t (by decide) (zx_prod g2 (g4 (by decide)) hn hv (Q f6)))))))
  · have e1 : nI (16 * a) + nI n = nI (16 * a + n) := nI_add _ _
    refine br_f (by decide) (br_f (by decide) (br_f (by decide) (br_f (by decide) (br_f (by decide) (br_f (by decide) (br_t (by decide) ⟨pk_in (16 * a + n) 128 (by omega) e1, by decide, ?_⟩))))))
    have h1 := zs_mul96 g3 (hv (16 * a + n))
    rw [zs_at e1 (by omega), pk_mul, zs_r97 (by omega)]
    exact Q f6
  · refine br_f (by decide) (br_f (by decide) (br_f (by decide) (br_f (by decide) (br_f (by decide) (br_f (by decide) (br_f (by decide) (br_t (by decide) (pk_le 16 (n + 1) (fun c => ?_) (fun c => ?_) rfl (nI_1 n)))))))))
    · have R : post (nI (if n + 1 < 16 then (n + 1) * v (16 * a + (n + 1)) % 97 else 0)) _ := Q f6
      rw [if_neg (by omega)] at R; exact R
    · have R : post (nI (if n + 1 < 16 then (n + 1) * v (16 * a + (n + 1)) % 97 else 0)) _ := Q f6
      rw [if_pos c] at R
      have e1 : nI (16 * a) + nI n + 1 = nI (16 * a + (n + 1)) := by rw [nI_add, nI_1]; rfl
      refine ⟨pk_in (16 * a + (n + 1)) 128 (by omega) e1, by decide, ?_⟩
      have h1 := zs_mul96 (show n + 1 < 97 by omega) (hv (16 * a + (n + 1)))
      rw [zs_at e1 (by omega), nI_1, pk_mul, zs_r97 (by omega)]
      exact R
  · refine br_f (by decide) (br_f (by decide) (br_f (by decide) (br_f (by decide) (br_f (by decide) (br_f (by decide) (br_f (by decide) (br_f (by decide) (br_t (by decide) (pk_eq n 0 (fun c => ?_) (fun c => ?_))))))))))
    · have R : post (nI (if n = 0 then b else v (16 * a + (n - 1)) * zs_inv n % 97)) _ := Q f6
      rw [if_pos c] at R; exact R
    · have R : post (nI (if n = 0 then b else v (16 * a + (n - 1)) * zs_inv n % 97)) _ := Q f6
      rw [if_neg c] at R
      have e1 : nI (16 * a) + nI n - 1 = nI (16 * a + (n - 1)) := zs_i3 (i := 1) (by omega)
      refine ⟨pk_in (16 * a + (n - 1)) 128 (by omega) e1, zx_inv (by omega) ⟨by decide, ?_⟩⟩
      have h1 := zs_mul96 (hv (16 * a + (n - 1))) (zs_inv_lt n)
      rw [zs_at e1 (by omega), pk_mul, zs_r97 (by omega)]
      exact R
  · refine br_f (by decide) (br_f (by decide) (br_f (by decide) (br_f (by decide) (br_f (by decide) (br_f (by decide) (br_f (by decide) (br_f (by decide) (br_f (by decide) (br_t (by decide) ?_)))))))))
    rw [zs_16]
    exact zx_rec g2 hs hn hv (Q f6)
  · refine br_f (by decide) (br_f (by decide) (br_f (by decide) (br_f (by decide) (br_f (by decide) (br_f (by decide) (br_f (by decide) (br_f (by decide) (br_f (by decide) (br_f (by decide) (br_t (by decide) (pk_eq n 0 (fun c => ?_) (fun c => ?_))))))))))))
    · have R : post (nI (if n = 0 then b else v (16 * a + (n - 1)))) _ := Q f6
      rw [if_pos c] at R; exact R
    · have R : post (nI (if n = 0 then b else v (16 * a + (n - 1)))) _ := Q f6
      rw [if_neg c] at R
      have e1 : nI (16 * a) + nI n - 1 = nI (16 * a + (n - 1)) := zs_i3 (i := 1) (by omega)
      refine ⟨pk_in (16 * a + (n - 1)) 128 (by omega) e1, ?_⟩
      rw [zs_at e1 (by omega)]
      exact R
  · exact br_f (by decide) (br_f (by decide) (br_f (by decide) (br_f (by decide) (br_f (by decide) (br_f (by decide) (br_f (by decide) (br_f (by decide) (br_f (by decide) (br_f (by decide) (br_f (by decide) (br_t (by decide) (zx_comp g2 (g4 (by decide)) hn hv Q))))))))))))
end
