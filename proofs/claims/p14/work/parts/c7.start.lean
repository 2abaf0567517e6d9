/-! THE LAW'S RUN -/
theorem LJ_up {V : Prop} {c : Nat} {h : im_H} (hJ : LJ V c h) : LJ False (c + 1) h := by
  obtain ⟨A, s, t, hM, hS, hR, h24, h25, hc, hz⟩ := hJ
  exact ⟨A, s, t, hM, CS_V False.elim hS, hR, h24, h25, by omega, by omega⟩
def lNew : im_H := cNew ++ (mAll 11 ++ [.inl (2, 1, .inr (.inl (fun _ => 0)))])
theorem LJ_new : LJ True 0 lNew := by
  refine ⟨(fun _ => 0, fun _ => 0, fun _ _ => 0), mS0, fun _ _ => 0, mAll_MM cNew _, ⟨rfl, rfl, ⟨fun _ => none, rfl, fun e he => absurd he (Nat.not_lt_zero _)⟩, rfl, ⟨.null, .null, .null, -1, -1, rfl, fun _ => ⟨rfl, rfl⟩⟩, ⟨⟨0, 0, 0, 0, 0, 0, rfl⟩, ⟨fun _ => 0, rfl⟩⟩, ⟨rfl, fun _ => 0, rfl, fun j hj => absurd hj (Nat.not_lt_zero _)⟩, Or.inl ⟨(0, 0, 0, 0, 0, false), rfl, rfl⟩, fun e he => absurd he (Nat.not_lt_zero _)⟩, RI_new, ⟨fun _ => 0, rfl⟩, Nat.le_of_ble_eq_true rfl, Nat.le_of_ble_eq_true rfl, Nat.le_of_ble_eq_true rfl⟩
theorem law_gt : ∀ a : Fin 4, ∀ b : Fin 4, im_cmp .gt (nI a.val) (nI b.val - 4) = true := by decide
