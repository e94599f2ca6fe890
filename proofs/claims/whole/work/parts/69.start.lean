/-! what a new object holds -/
def S0 : sc_S := fun a b => if a = 6 then (match b with
  | 0 => 2
  | 1 => 4
  | 2 => 2
  | 3 => 3
  | _ => 5) else 0
theorem S0_wf : sc_wf S0 := by
  have e0 : S0 7 0 = 0 := rfl
  have e1 : S0 7 1 = 0 := rfl
  refine ⟨by rw [e0]; decide, ⟨fun _ => e0, fun _ => e1⟩, fun m hm => absurd hm (by rw [e1]; exact Nat.not_lt_zero m), fun h => absurd h (by rw [e1]; decide), fun i hi => absurd hi (by rw [e0]; exact Nat.not_lt_zero i), fun j hj => ?_⟩
  exact match j, hj with
  | 0, _ => by decide
  | 1, _ => by decide
  | 2, _ => by decide
  | 3, _ => by decide
  | 4, _ => by decide
def xF0 : Nat → Int32 := fun j => match j with
  | 3 => 2
  | 4 => 4
  | 5 => 2
  | 6 => 3
  | 7 => 5
  | 10 => 1
  | 11 => 1
  | _ => 0
def mF0 : Nat → Int32 := fun j => match j with
  | 3 => 2
  | 4 => 4
  | 5 => 2
  | 6 => 3
  | 7 => 5
  | _ => 0
def qA0 : Nat → Nat → Int32 := fun _ _ => 0
def q_ad (L : List Nat) : Nat → Nat := fun j => L.getD j 0
theorem xI0 : xI S0 xF0 qA0 := by
  have e0 : S0 7 0 = 0 := rfl
  have e1 : S0 7 1 = 0 := rfl
  refine ⟨⟨rfl, rfl, fun j hj => ?_, fun i hi => absurd hi (by rw [e0]; exact Nat.not_lt_zero i), fun m hm => absurd hm (by rw [e1]; exact Nat.not_lt_zero m)⟩, fun c => absurd rfl c⟩
  exact match j, hj with
  | 0, _ => rfl
  | 1, _ => rfl
  | 2, _ => rfl
  | 3, _ => rfl
  | 4, _ => rfl
theorem mI0 : mI S0 mF0 qA0 := by
  have e0 : S0 7 0 = 0 := rfl
  have e1 : S0 7 1 = 0 := rfl
  refine ⟨⟨rfl, rfl, fun j hj => ?_, fun i hi => absurd hi (by rw [e0]; exact Nat.not_lt_zero i), fun m hm => absurd hm (by rw [e1]; exact Nat.not_lt_zero m)⟩, fun c => absurd rfl c⟩
  exact match j, hj with
  | 0, _ => rfl
  | 1, _ => rfl
  | 2, _ => rfl
  | 3, _ => rfl
  | 4, _ => rfl
