/-! how great it all may be -/
def ab (x B : Int) : Prop := -B ≤ x ∧ x ≤ B
theorem ab_add {x y B C : Int} (h : ab x B) (g : ab y C) : ab (x + y) (B + C) := by unfold ab at *; omega
theorem ab_sub {x y B C : Int} (h : ab x B) (g : ab y C) : ab (x - y) (B + C) := by unfold ab at *; omega
theorem ab_neg {x B : Int} (h : ab x B) : ab (-x) B := by unfold ab at *; omega
theorem ab_mono {x B C : Int} (h : ab x B) (g : B ≤ C) : ab x C := by unfold ab at *; omega
theorem ab_0 {B : Int} (h : 0 ≤ B) : ab 0 B := by unfold ab at *; omega
theorem ab_nn {x B : Int} (h : ab x B) : 0 ≤ B := by unfold ab at *; omega
theorem ab_mul {x B b : Int} (h : ab x B) (hb : 0 ≤ b) : ab (x * b) (B * b) := by
  unfold ab at *
  exact mul_b h ⟨hb, Int.le_refl b⟩
theorem ab_mul' {x B b : Int} (h : ab x B) (hb : 0 ≤ b) : ab (b * x) (b * B) := by
  rw [Int.mul_comm b x, Int.mul_comm b B]; exact ab_mul h hb
theorem ab_mul2 {x B b c : Int} (h : ab x B) (hb : 0 ≤ b) (hc : b ≤ c) : ab (b * x) (c * B) := by
  rw [Int.mul_comm b x, Int.mul_comm c B]; unfold ab at *; exact mul_b h ⟨hb, hc⟩
theorem ZS_ab {A : Int → Int} (v : VA A) {f : Int → Int → Int} (B : Int) (h : ∀ x y : Nat, x < 11 → y < 11 → x ≤ y → (y : Int) ≤ A 0 → -B ≤ f x y ∧ f x y ≤ B) : ab (ZS A f) (54 * B) := by
  have hB : 0 ≤ B := by have := h 0 0 (by omega) (by omega) (by omega) (by have := v.1; omega); omega
  have := v.1
  exact ZS_bound v B hB (fun x y x0 xy y1 => by
    obtain ⟨x', rfl⟩ := nat_of x0
    obtain ⟨y', rfl⟩ := nat_of (show 0 ≤ y by omega)
    exact h x' y' (by omega) (by omega) (by omega) y1)
theorem S_ab {A : Int → Int} (v : VA A) {k : Int} (h0 : 0 ≤ k) (h1 : k + 1 < A 1) : ab (ZS A (sF (aT A k) (aT A (k + 1)) 0)) (54 * (spA A k * spA A k * spA A k * spA A k)) ∧ ab (ZS A (sF (aT A k) (aT A (k + 1)) 1)) (54 * (spA A k * spA A k * spA A k * spA A k)) ∧ ab (ZS A (brF (aT A k) (aT A (k + 1)) 0)) (54 * (spA A k * spA A k)) ∧ ab (ZS A (brF (aT A k) (aT A (k + 1)) 1)) (54 * (spA A k * spA A k)) := by
  have a1 := VA_at v h0 (by omega)
  have a2 := VA_at v (k := k + 1) (by omega) h1
  have a3 := VA_lt v h0 h1
  have := v.1
  unfold spA
  generalize aT A (k + 1) = b at *
  generalize aT A k = a at *
  obtain ⟨a', rfl⟩ := nat_of a1.1
  obtain ⟨b', rfl⟩ := nat_of a2.1
  refine ⟨ZS_ab v _ (fun x y hx hy xy _ => ?_), ZS_ab v _ (fun x y hx hy xy _ => ?_), ZS_ab v _ (fun x y hx hy xy _ => ?_), ZS_ab v _ (fun x y hx hy xy _ => ?_)⟩
  · exact (d_bound a' (by omega) b' (by omega) (by omega) x hx y hy xy).1
  · exact (d_bound a' (by omega) b' (by omega) (by omega) x hx y hy xy).2.1
  · have := (d_bound a' (by omega) b' (by omega) (by omega) x hx y hy xy).2.2.1
    omega
  · have := (d_bound a' (by omega) b' (by omega) (by omega) x hx y hy xy).2.2.2
    omega
theorem ends_ab {A : Int → Int} (v : VA A) (hn : 2 ≤ A 1) {e : Int} (e1 : aT A 0 ≤ e) (e2 : A 0 - aT A (A 1 - 1) ≤ e) : ab (oF A) (2 * PP A * (54 * (e * (e + 2)))) ∧ ab (oL A) (2 * PP A * (54 * (e * (e + 2)))) := by
  have a1 := VA_at v (k := 0) (by omega) (by omega)
  have a2 := VA_at v (k := A 1 - 1) (by omega) (by omega)
  have := v.1
  have p := PP_pos v hn
  have mono : ∀ p : Int, 0 ≤ p → p ≤ e → p * (p + 2) ≤ e * (e + 2) := by
    intro p p0 p1
    exact Int.mul_le_mul p1 (by omega) (by omega) (by omega)
  unfold oF oL
  refine ⟨ab_mul' ?_ (by omega), ab_mul' ?_ (by omega)⟩
  · refine ab_mono (ZS_ab v (aT A 0 * (aT A 0 + 2)) (fun x y hx hy xy _ => ?_)) (by have := mono _ a1.1 e1; omega)
    obtain ⟨p', hp⟩ := nat_of a1.1
    rw [hp]
    have := (d_bound2 p' (by omega) x hx y hy xy).1
    omega
  · refine ab_mono (ZS_ab v ((A 0 - aT A (A 1 - 1)) * (A 0 - aT A (A 1 - 1) + 2)) (fun x y hx hy xy yl => ?_)) (by have := mono (A 0 - aT A (A 1 - 1)) (by omega) e2; omega)
    obtain ⟨p', hp⟩ := nat_of a2.1
    obtain ⟨L', hL⟩ := nat_of (show 0 ≤ A 0 by omega)
    rw [hp, hL]
    have := d_bound3 p' (by omega) L' (by omega) (by omega) x hx y hy xy (by omega)
    omega
theorem leA_ab {A : Int → Int} (v : VA A) (hn : 2 ≤ A 1) {k : Int} (h0 : 0 < k) (h1 : k + 1 < A 1) : ab (leA A k) (54 * (spA A (k - 1) * spA A (k - 1) * spA A (k - 1) * spA A (k - 1)) * QQ A (k - 1) + 54 * (spA A k * spA A k * spA A k * spA A k) * QQ A k) := by
  unfold leA
  have q1 := QQ_pos v hn (k := k - 1) (by omega) (by omega)
  have q2 := QQ_pos v hn (k := k) (by omega) (by omega)
  exact ab_add (ab_mul (S_ab v (k := k - 1) (by omega) (by omega)).1 (by omega)) (ab_mul (S_ab v (k := k) (by omega) (by omega)).2.1 (by omega))
theorem hrI_01 (A : Int → Int) (k : Int) : hrI A k = 0 ∨ hrI A k = 1 := by
  unfold hrI
  split <;> omega
theorem hrI_1 {A : Int → Int} {k : Int} (h : ¬ hrI A k = 0) : 0 < k ∧ k < A 1 - 1 ∧ A (6 + k) = 0 := by
  unfold hrI at h
  by_cases c : 0 < k ∧ k < A 1 - 1 ∧ A (6 + k) = 0
  · exact c
  · rw [if_neg c] at h; omega

theorem rows_ab {A : Int → Int} {W1 W2 T1 T2 B O : Int} (g1 : 0 < wA1 A ∧ wA1 A ≤ W1) (g2 : 0 < wA2 A ∧ wA2 A ≤ W2) (gc : 0 < crA A ∧ crA A ≤ W1 * W2) (gb : 0 ≤ btA A ∧ btA A ≤ B) (f1 : ab (tA1 A) T1) (f2 : ab (tA2 A) T2) (hF : ab (oF A) O) (hL : ab (oL A) O) {k : Int} (h0 : 0 ≤ k) (h1 : k < A 1) (h4 : A 1 ≤ 4) :
    ab (ooA A k) (if k = A 1 - 1 ∨ k = 0 then W1 * W2 * O else if k = 1 then W2 * T1 + B * T2 else W1 * T2 + B * T1) := by
  unfold ooA
  by_cases c1 : k = A 1 - 1
  · rw [if_pos c1, if_pos (Or.inl c1), Int.mul_comm (oL A)]
    exact ab_mul2 hL (by omega) gc.2
  · rw [if_neg c1]
    by_cases c2 : k = 0
    · rw [if_pos c2, if_pos (Or.inr c2), Int.mul_comm (oF A)]
      exact ab_mul2 hF (by omega) gc.2
    · rw [if_neg c2, if_neg (show ¬ (k = A 1 - 1 ∨ k = 0) by omega)]
      by_cases c3 : k = 1
      · rw [if_pos c3, if_pos c3]
        exact ab_sub (ab_mul2 f1 (by omega) g2.2) (ab_mul2 f2 gb.1 gb.2)
      · rw [if_neg c3, if_neg c3]
        exact ab_sub (ab_mul2 f2 (by omega) g1.2) (ab_mul2 f1 gb.1 gb.2)
def shB (A : Int → Int) (k : Int) : Int := (ooA A (k + 1) - ooA A k) * QQ A k + ZS A (brF (aT A k) (aT A (k + 1)) 0) * (2 * PP A * QQ A k * crA A)
theorem shB_ab {A : Int → Int} (v : VA A) (hn : 2 ≤ A 1) {k W O1 O2 : Int} (h0 : 0 ≤ k) (h1 : k + 1 < A 1) (gc : 0 < crA A ∧ crA A ≤ W) (f1 : ab (ooA A k) O1) (f2 : ab (ooA A (k + 1)) O2) : ab (shB A k) ((O2 + O1) * QQ A k + 54 * (spA A k * spA A k) * (2 * PP A * QQ A k * W)) := by
  have q := QQ_pos v hn h0 h1
  have p := PP_pos v hn
  unfold shB
  refine ab_add (ab_mul (ab_sub f2 f1) (by omega)) ?_
  have e := (S_ab v h0 h1).2.2.1
  have pq : 0 < 2 * PP A * QQ A k := pos2 (by omega) q
  have c1 : 0 ≤ 2 * PP A * QQ A k * crA A := by have := pos2 pq gc.1; omega
  have c2 : 2 * PP A * QQ A k * crA A ≤ 2 * PP A * QQ A k * W := Int.mul_le_mul_of_nonneg_left gc.2 (by omega)
  rw [Int.mul_comm (ZS A _), Int.mul_comm (54 * (spA A k * spA A k))]
  exact ab_mul2 e c1 c2
def x4 (a : Int) : Int := 54 * (a * a * a * a)
def xF (P e : Int) : Int := 2 * P * (54 * (e * (e + 2)))
def xT1 (a b c e : Int) : Int := x4 a * (b * c) + x4 b * (a * c) + a * xF (a * b * c) e
def xT2 (a b c e : Int) : Int := x4 b * (a * c) + x4 c * (a * b) + c * xF (a * b * c) e
def xW (a b c : Int) : Int := (2 * (a + b)) * (2 * (b + c))
def xO (a b c e k : Int) : Int := if k = 1 then (2 * (b + c)) * xT1 a b c e + b * xT2 a b c e else if k = 2 then (2 * (a + b)) * xT2 a b c e + b * xT1 a b c e else xW a b c * xF (a * b * c) e
set_option maxRecDepth 100000 in
set_option maxHeartbeats 4000000 in
theorem d_four_c : (al 9 fun a => al 9 fun b => al 9 fun c => al 8 fun e =>  decide ((0 < a) → (0 < b) → (0 < c) → (a + b + c + e ≤ 10 →
    (4 * (a * b * c : Int) * (a * b * c) * xW a b c ≤ 1100000) ∧
    (xO a b c e 0 * (a * b * c : Int) ≤ 400000000 ∧ xO a b c e 1 * (a * b * c : Int) ≤ 400000000 ∧ xO a b c e 2 * (a * b * c : Int) ≤ 400000000) ∧
    ((xO a b c e 1 + xO a b c e 0) * (b * c : Int) + 54 * (a * a : Int) * (2 * (a * b * c : Int) * (b * c : Int) * xW a b c) ≤ 400000000) ∧
    ((xO a b c e 2 + xO a b c e 1) * (a * c : Int) + 54 * (b * b : Int) * (2 * (a * b * c : Int) * (a * c : Int) * xW a b c) ≤ 400000000) ∧
    ((xO a b c e 0 + xO a b c e 2) * (a * b : Int) + 54 * (c * c : Int) * (2 * (a * b * c : Int) * (a * b : Int) * xW a b c) ≤ 400000000)))) = true := by decide +kernel
theorem d_four : ∀ a : Nat, a < 9 → ∀ b : Nat, b < 9 → ∀ c : Nat, c < 9 → ∀ e : Nat, e < 8 → 0 < a → 0 < b → 0 < c → a + b + c + e ≤ 10 →
    (4 * (a * b * c : Int) * (a * b * c) * xW a b c ≤ 1100000) ∧
    (xO a b c e 0 * (a * b * c : Int) ≤ 400000000 ∧ xO a b c e 1 * (a * b * c : Int) ≤ 400000000 ∧ xO a b c e 2 * (a * b * c : Int) ≤ 400000000) ∧
    ((xO a b c e 1 + xO a b c e 0) * (b * c : Int) + 54 * (a * a : Int) * (2 * (a * b * c : Int) * (b * c : Int) * xW a b c) ≤ 400000000) ∧
    ((xO a b c e 2 + xO a b c e 1) * (a * c : Int) + 54 * (b * b : Int) * (2 * (a * b * c : Int) * (a * c : Int) * xW a b c) ≤ 400000000) ∧
    ((xO a b c e 0 + xO a b c e 2) * (a * b : Int) + 54 * (c * c : Int) * (2 * (a * b * c : Int) * (a * b : Int) * xW a b c) ≤ 400000000) := fun a ha b hb c hc e he k1 k2 k3 => of_decide_eq_true (al_spec (al_spec (al_spec (al_spec (d_four_c) _ ha) _ hb) _ hc) _ he) k1 k2 k3
def yT (a b e : Int) : Int := x4 a * b + x4 b * a + a * xF (a * b) e + b * xF (a * b) e
set_option maxRecDepth 100000 in
set_option maxHeartbeats 4000000 in
theorem d_three_c : (al 11 fun a => al 11 fun b => al 11 fun e =>  decide ((0 < a) → (0 < b) → (a + b + e ≤ 10 →
    (4 * (a * b : Int) * (a * b) * (2 * (a + b : Int)) ≤ 1100000) ∧
    (2 * (a + b : Int) * xF (a * b) e * (a * b : Int) ≤ 400000000 ∧ yT a b e * (a * b : Int) ≤ 400000000) ∧
    ((yT a b e + 2 * (a + b : Int) * xF (a * b) e) * (b : Int) + 54 * (a * a : Int) * (2 * (a * b : Int) * (b : Int) * (2 * (a + b : Int))) ≤ 400000000) ∧
    ((2 * (a + b : Int) * xF (a * b) e + yT a b e) * (a : Int) + 54 * (b * b : Int) * (2 * (a * b : Int) * (a : Int) * (2 * (a + b : Int))) ≤ 400000000)))) = true := by decide +kernel
theorem d_three : ∀ a : Nat, a < 11 → ∀ b : Nat, b < 11 → ∀ e : Nat, e < 11 → 0 < a → 0 < b → a + b + e ≤ 10 →
    (4 * (a * b : Int) * (a * b) * (2 * (a + b : Int)) ≤ 1100000) ∧
    (2 * (a + b : Int) * xF (a * b) e * (a * b : Int) ≤ 400000000 ∧ yT a b e * (a * b : Int) ≤ 400000000) ∧
    ((yT a b e + 2 * (a + b : Int) * xF (a * b) e) * (b : Int) + 54 * (a * a : Int) * (2 * (a * b : Int) * (b : Int) * (2 * (a + b : Int))) ≤ 400000000) ∧
    ((2 * (a + b : Int) * xF (a * b) e + yT a b e) * (a : Int) + 54 * (b * b : Int) * (2 * (a * b : Int) * (a : Int) * (2 * (a + b : Int))) ≤ 400000000) := fun a ha b hb e he k1 k2 => of_decide_eq_true (al_spec (al_spec (al_spec (d_three_c) _ ha) _ hb) _ he) k1 k2
set_option maxRecDepth 100000 in
set_option maxHeartbeats 4000000 in
theorem d_two_c : (al 11 fun a => al 11 fun e =>  decide ((0 < a) → (a + e ≤ 10 →
    (4 * (a : Int) * a * 1 ≤ 1100000) ∧ (xF a e * (a : Int) ≤ 400000000) ∧
    ((xF a e + xF a e) * 1 + 54 * (a * a : Int) * (2 * (a : Int) * 1 * 1) ≤ 400000000)))) = true := by decide +kernel
theorem d_two : ∀ a : Nat, a < 11 → ∀ e : Nat, e < 11 → 0 < a → a + e ≤ 10 →
    (4 * (a : Int) * a * 1 ≤ 1100000) ∧ (xF a e * (a : Int) ≤ 400000000) ∧
    ((xF a e + xF a e) * 1 + 54 * (a * a : Int) * (2 * (a : Int) * 1 * 1) ≤ 400000000) := fun a ha e he k1 => of_decide_eq_true (al_spec (al_spec (d_two_c) _ ha) _ he) k1
