/-! what one load of 1 from x to y gives -/
def plF (p x y : Int) : Int := if x = y then (if x = p then 1 else 0) else 0
def deF (k x y : Int) : Int := if x ≤ k then (if k < y then 1 else 0) else 0
def moreI (a b : Int) : Int := if a ≤ b then b else a
def lessI (a b : Int) : Int := if b ≤ a then b else a
def wholeI (l d : Int) : Int := ((((2 * l) * l) * d) * d) - (((d * d) * d) * d)
/-- leanToRight (r 0) and leanToLeft (r 1) of the span from a to b -/
def sF (a b r x y : Int) : Int :=
  if x < y then (if moreI x a < lessI y b then (if r = 0 then wholeI (b - a) (lessI y b - a) - wholeI (b - a) (moreI x a - a) else wholeI (b - a) (b - moreI x a) - wholeI (b - a) (b - lessI y b)) else 0)
  else if x ≤ a then 0 else if b ≤ x then 0 else (4 * (if r = 0 then x - a else b - x)) * ((b - a) * (b - a) - (if r = 0 then x - a else b - x) * (if r = 0 then x - a else b - x))
def byF (p l x y : Int) : Int :=
  if (if l = 0 then y - p else p - x) ≤ 0 then 0 else if x < y then -((if l = 0 then y - p else p - x) * (if l = 0 then y - p else p - x) - moreI 0 (if l = 0 then x - p else p - y) * moreI 0 (if l = 0 then x - p else p - y)) else -(2 * (if l = 0 then y - p else p - x))
def brF (a b r x y : Int) : Int :=
  if x < y then (if moreI x a < lessI y b then (if r = 0 then (b - moreI x a) * (b - moreI x a) - (b - lessI y b) * (b - lessI y b) else (lessI y b - a) * (lessI y b - a) - (moreI x a - a) * (moreI x a - a)) else 0)
  else if x ≤ a then 0 else if b ≤ x then 0 else 2 * (if r = 0 then b - x else x - a)
def bsF (p l x y : Int) : Int :=
  if x < y then (if l = 0 then moreI 0 (y - moreI x p) else moreI 0 (lessI y p - x))
  else if l = 0 then (if x ≤ p then 0 else 1) else (if p ≤ x then 0 else 1)
def mF (a b x y : Int) : Int :=
  if a - b * x ≤ 0 then 0 else if x < y then (a - b * x) * (a - b * x) - (if a - b * y ≤ 0 then 0 else (a - b * y) * (a - b * y)) else (2 * b) * (a - b * x)
def lS (l s : Int) : Int := (s * s) * (((2 * l) * l) - (s * s))
def lP (l s : Int) : Int := (4 * s) * ((l * l) - (s * s))
def al : Nat → (Nat → Bool) → Bool
  | 0, _ => true
  | n + 1, f => f n && al n f
theorem al_spec {f : Nat → Bool} : ∀ {n : Nat}, al n f = true → ∀ k, k < n → f k = true := by
  intro n
  induction n with
  | zero => intro _ k hk; omega
  | succ n ih =>
    intro h k hk
    simp only [al, Bool.and_eq_true] at h
    by_cases c : k = n
    · rw [c]; exact h.1
    · exact ih h.2 k (by omega)
set_option maxRecDepth 100000 in
set_option maxHeartbeats 4000000 in
theorem d_first_c : (al 11 fun p => al 11 fun x => al 11 fun y =>  decide ((x ≤ y) → (isum (fun k => -(2 * ((p : Int) - k)) * plF k x y + -(2 * ((p : Int) - k) - 1) * deF k x y) 0 p = byF p 1 x y))) = true := by decide +kernel
theorem d_first : ∀ p : Nat, p < 11 → ∀ x : Nat, x < 11 → ∀ y : Nat, y < 11 → x ≤ y → isum (fun k => -(2 * ((p : Int) - k)) * plF k x y + -(2 * ((p : Int) - k) - 1) * deF k x y) 0 p = byF p 1 x y := fun p hp x hx y hy k1 => of_decide_eq_true (al_spec (al_spec (al_spec (d_first_c) _ hp) _ hx) _ hy) k1
set_option maxRecDepth 100000 in
set_option maxHeartbeats 4000000 in
theorem d_last_c : (al 11 fun p => al 11 fun L => al 11 fun x => al 11 fun y =>  decide ((p ≤ L) → (x ≤ y) → (y ≤ L) → (isum (fun k => -(2 * (k + 1 - (p : Int))) * plF (k + 1) x y + -(2 * (k + 1 - (p : Int)) - 1) * deF k x y) p (L - p) = byF p 0 x y))) = true := by decide +kernel
theorem d_last : ∀ p : Nat, p < 11 → ∀ L : Nat, L < 11 → p ≤ L → ∀ x : Nat, x < 11 → ∀ y : Nat, y < 11 → x ≤ y → y ≤ L → isum (fun k => -(2 * (k + 1 - (p : Int))) * plF (k + 1) x y + -(2 * (k + 1 - (p : Int)) - 1) * deF k x y) p (L - p) = byF p 0 x y := fun p hp L hL k1 x hx y hy k2 k3 => of_decide_eq_true (al_spec (al_spec (al_spec (al_spec (d_last_c) _ hp) _ hL) _ hx) _ hy) k1 k2 k3
set_option maxRecDepth 100000 in
set_option maxHeartbeats 4000000 in
theorem d_right_c : (al 11 fun a => al 11 fun b => al 11 fun x => al 11 fun y =>  decide ((a < b) → (x ≤ y) → (isum (fun s => (lS ((b : Int) - a) (s + 1) - lS ((b : Int) - a) s) * deF (a + s) x y + (if s = 0 then 0 else lP ((b : Int) - a) s) * plF (a + s) x y) 0 (b - a) = sF a b 0 x y))) = true := by decide +kernel
theorem d_right : ∀ a : Nat, a < 11 → ∀ b : Nat, b < 11 → a < b → ∀ x : Nat, x < 11 → ∀ y : Nat, y < 11 → x ≤ y → isum (fun s => (lS ((b : Int) - a) (s + 1) - lS ((b : Int) - a) s) * deF (a + s) x y + (if s = 0 then 0 else lP ((b : Int) - a) s) * plF (a + s) x y) 0 (b - a) = sF a b 0 x y := fun a ha b hb k1 x hx y hy k2 => of_decide_eq_true (al_spec (al_spec (al_spec (al_spec (d_right_c) _ ha) _ hb) _ hx) _ hy) k1 k2
set_option maxRecDepth 100000 in
set_option maxHeartbeats 4000000 in
theorem d_left_c : (al 11 fun a => al 11 fun b => al 11 fun x => al 11 fun y =>  decide ((a < b) → (x ≤ y) → (isum (fun s => (lS ((b : Int) - a) ((b : Int) - a - s) - lS ((b : Int) - a) ((b : Int) - a - s - 1)) * deF (a + s) x y + (if s = 0 then 0 else lP ((b : Int) - a) ((b : Int) - a - s)) * plF (a + s) x y) 0 (b - a) = sF a b 1 x y))) = true := by decide +kernel
theorem d_left : ∀ a : Nat, a < 11 → ∀ b : Nat, b < 11 → a < b → ∀ x : Nat, x < 11 → ∀ y : Nat, y < 11 → x ≤ y → isum (fun s => (lS ((b : Int) - a) ((b : Int) - a - s) - lS ((b : Int) - a) ((b : Int) - a - s - 1)) * deF (a + s) x y + (if s = 0 then 0 else lP ((b : Int) - a) ((b : Int) - a - s)) * plF (a + s) x y) 0 (b - a) = sF a b 1 x y := fun a ha b hb k1 x hx y hy k2 => of_decide_eq_true (al_spec (al_spec (al_spec (al_spec (d_left_c) _ ha) _ hb) _ hx) _ hy) k1 k2
set_option maxRecDepth 100000 in
set_option maxHeartbeats 4000000 in
theorem d_span_c : (al 11 fun a => al 11 fun b => al 11 fun x => al 11 fun y =>  decide ((a < b) → (x ≤ y) → (isum (fun s => (2 * ((b : Int) - a - s) - 1) * deF (a + s) x y + (if s = 0 then 0 else 2 * ((b : Int) - a - s)) * plF (a + s) x y) 0 (b - a) = brF a b 0 x y))) = true := by decide +kernel
theorem d_span : ∀ a : Nat, a < 11 → ∀ b : Nat, b < 11 → a < b → ∀ x : Nat, x < 11 → ∀ y : Nat, y < 11 → x ≤ y → isum (fun s => (2 * ((b : Int) - a - s) - 1) * deF (a + s) x y + (if s = 0 then 0 else 2 * ((b : Int) - a - s)) * plF (a + s) x y) 0 (b - a) = brF a b 0 x y := fun a ha b hb k1 x hx y hy k2 => of_decide_eq_true (al_spec (al_spec (al_spec (al_spec (d_span_c) _ ha) _ hb) _ hx) _ hy) k1 k2
set_option maxRecDepth 100000 in
set_option maxHeartbeats 4000000 in
theorem d_behind_c : (al 11 fun p => al 11 fun L => al 11 fun x => al 11 fun y =>  decide ((p ≤ L) → (x ≤ y) → (y ≤ L) → (isum (fun k => 1 * deF k x y + 1 * plF (k + 1) x y) p (L - p) = bsF p 0 x y))) = true := by decide +kernel
theorem d_behind : ∀ p : Nat, p < 11 → ∀ L : Nat, L < 11 → p ≤ L → ∀ x : Nat, x < 11 → ∀ y : Nat, y < 11 → x ≤ y → y ≤ L → isum (fun k => 1 * deF k x y + 1 * plF (k + 1) x y) p (L - p) = bsF p 0 x y := fun p hp L hL k1 x hx y hy k2 k3 => of_decide_eq_true (al_spec (al_spec (al_spec (al_spec (d_behind_c) _ hp) _ hL) _ hx) _ hy) k1 k2 k3
set_option maxRecDepth 100000 in
set_option maxHeartbeats 4000000 in
theorem d_both_c : (al 11 fun a => al 11 fun b => al 11 fun x => al 11 fun y =>  decide ((a < b) → (x ≤ y) → (brF a b 1 x y + brF a b 0 x y = 2 * ((b : Int) - a) * (bsF b 1 x y - bsF a 1 x y - plF a x y)))) = true := by decide +kernel
theorem d_both : ∀ a : Nat, a < 11 → ∀ b : Nat, b < 11 → a < b → ∀ x : Nat, x < 11 → ∀ y : Nat, y < 11 → x ≤ y → brF a b 1 x y + brF a b 0 x y = 2 * ((b : Int) - a) * (bsF b 1 x y - bsF a 1 x y - plF a x y) := fun a ha b hb k1 x hx y hy k2 => of_decide_eq_true (al_spec (al_spec (al_spec (al_spec (d_both_c) _ ha) _ hb) _ hx) _ hy) k1 k2
set_option maxRecDepth 100000 in
set_option maxHeartbeats 4000000 in
theorem d_ahead_c : (al 11 fun k => al 11 fun x => al 11 fun y =>  decide ((x ≤ y) → (bsF (k + 1) 1 x y = bsF k 1 x y + plF k x y + deF k x y ∧ bsF 0 1 x y = 0 ∧ mF (k + 1) 1 x y = mF k 1 x y + 2 * (plF k x y + bsF k 1 x y) + deF k x y ∧ mF 0 1 x y = 0))) = true := by decide +kernel
theorem d_ahead : ∀ k : Nat, k < 11 → ∀ x : Nat, x < 11 → ∀ y : Nat, y < 11 → x ≤ y → bsF (k + 1) 1 x y = bsF k 1 x y + plF k x y + deF k x y ∧ bsF 0 1 x y = 0 ∧ mF (k + 1) 1 x y = mF k 1 x y + 2 * (plF k x y + bsF k 1 x y) + deF k x y ∧ mF 0 1 x y = 0 := fun k hk x hx y hy k1 => of_decide_eq_true (al_spec (al_spec (al_spec (d_ahead_c) _ hk) _ hx) _ hy) k1
/-! how great they may be -/
set_option maxRecDepth 100000 in
set_option maxHeartbeats 4000000 in
theorem d_bound_c : (al 11 fun a => al 11 fun b => al 11 fun x => al 11 fun y =>  decide ((a < b) → (x ≤ y) → ((-(((b : Int) - a) * (b - a) * (b - a) * (b - a)) ≤ sF a b 0 x y ∧ sF a b 0 x y ≤ ((b : Int) - a) * (b - a) * (b - a) * (b - a)) ∧ (-(((b : Int) - a) * (b - a) * (b - a) * (b - a)) ≤ sF a b 1 x y ∧ sF a b 1 x y ≤ ((b : Int) - a) * (b - a) * (b - a) * (b - a)) ∧ (0 ≤ brF a b 0 x y ∧ brF a b 0 x y ≤ ((b : Int) - a) * (b - a)) ∧ (0 ≤ brF a b 1 x y ∧ brF a b 1 x y ≤ ((b : Int) - a) * (b - a))))) = true := by decide +kernel
theorem d_bound : ∀ a : Nat, a < 11 → ∀ b : Nat, b < 11 → a < b → ∀ x : Nat, x < 11 → ∀ y : Nat, y < 11 → x ≤ y → (-(((b : Int) - a) * (b - a) * (b - a) * (b - a)) ≤ sF a b 0 x y ∧ sF a b 0 x y ≤ ((b : Int) - a) * (b - a) * (b - a) * (b - a)) ∧ (-(((b : Int) - a) * (b - a) * (b - a) * (b - a)) ≤ sF a b 1 x y ∧ sF a b 1 x y ≤ ((b : Int) - a) * (b - a) * (b - a) * (b - a)) ∧ (0 ≤ brF a b 0 x y ∧ brF a b 0 x y ≤ ((b : Int) - a) * (b - a)) ∧ (0 ≤ brF a b 1 x y ∧ brF a b 1 x y ≤ ((b : Int) - a) * (b - a)) := fun a ha b hb k1 x hx y hy k2 => of_decide_eq_true (al_spec (al_spec (al_spec (al_spec (d_bound_c) _ ha) _ hb) _ hx) _ hy) k1 k2
set_option maxRecDepth 100000 in
set_option maxHeartbeats 4000000 in
theorem d_bound2_c : (al 11 fun p => al 11 fun x => al 11 fun y =>  decide ((x ≤ y) → ((-((p : Int) * (p + 2)) ≤ byF p 1 x y ∧ byF p 1 x y ≤ 0) ∧ (0 ≤ bsF p 1 x y ∧ bsF p 1 x y ≤ 10) ∧ (0 ≤ bsF p 0 x y ∧ bsF p 0 x y ≤ 10) ∧ (0 ≤ plF p x y ∧ plF p x y ≤ 1) ∧ (0 ≤ deF p x y ∧ deF p x y ≤ 1) ∧ (0 ≤ bsF p 1 x y + plF p x y ∧ bsF p 1 x y + plF p x y ≤ 10)))) = true := by decide +kernel
theorem d_bound2 : ∀ p : Nat, p < 11 → ∀ x : Nat, x < 11 → ∀ y : Nat, y < 11 → x ≤ y → (-((p : Int) * (p + 2)) ≤ byF p 1 x y ∧ byF p 1 x y ≤ 0) ∧ (0 ≤ bsF p 1 x y ∧ bsF p 1 x y ≤ 10) ∧ (0 ≤ bsF p 0 x y ∧ bsF p 0 x y ≤ 10) ∧ (0 ≤ plF p x y ∧ plF p x y ≤ 1) ∧ (0 ≤ deF p x y ∧ deF p x y ≤ 1) ∧ (0 ≤ bsF p 1 x y + plF p x y ∧ bsF p 1 x y + plF p x y ≤ 10) := fun p hp x hx y hy k1 => of_decide_eq_true (al_spec (al_spec (al_spec (d_bound2_c) _ hp) _ hx) _ hy) k1
set_option maxRecDepth 100000 in
set_option maxHeartbeats 4000000 in
theorem d_bound3_c : (al 11 fun p => al 11 fun L => al 11 fun x => al 11 fun y =>  decide ((p ≤ L) → (x ≤ y) → (y ≤ L) → ((-(((L : Int) - p) * (L - p + 2)) ≤ byF p 0 x y ∧ byF p 0 x y ≤ 0)))) = true := by decide +kernel
theorem d_bound3 : ∀ p : Nat, p < 11 → ∀ L : Nat, L < 11 → p ≤ L → ∀ x : Nat, x < 11 → ∀ y : Nat, y < 11 → x ≤ y → y ≤ L → (-(((L : Int) - p) * (L - p + 2)) ≤ byF p 0 x y ∧ byF p 0 x y ≤ 0) := fun p hp L hL k1 x hx y hy k2 k3 => of_decide_eq_true (al_spec (al_spec (al_spec (al_spec (d_bound3_c) _ hp) _ hL) _ hx) _ hy) k1 k2 k3
