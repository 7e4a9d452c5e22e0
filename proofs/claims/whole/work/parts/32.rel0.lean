def c00 : Cfg := (0, 0, fun _ => 0, fun _ => 0, fun _ => 0, fun _ => 0)
theorem rel0 : Rel ww0 md0 := by
  refine ⟨⟨rfl, rfl, rfl, rfl, fun k _ => rfl, rfl⟩, ⟨rfl, fun r hr => ?_⟩, ⟨rfl, fun r hr => ?_⟩, c00, [], ⟨Or.inl rfl, Nat.zero_le _, fun _ _ => Nat.zero_le _, fun i h => absurd h (Nat.not_lt_zero i)⟩, ⟨Nat.zero_le _, fun _ => rfl, fun e h => absurd h List.not_mem_nil⟩, ⟨⟨rfl, rfl, rfl, rfl, rfl, rfl, fun _ _ => rfl, fun _ _ => rfl, fun i h => absurd h (Nat.not_lt_zero i)⟩, rfl, fun j e h => by simp at h⟩, ⟨rfl, rfl, fun _ _ => rfl, fun i h => absurd h (Nat.not_lt_zero i)⟩, rfl, ⟨rfl, rfl, rfl, rfl, fun _ _ => rfl⟩, fun j h => absurd h (Nat.not_lt_zero j), fun k hk => Or.inl ⟨rfl, ?_⟩⟩
  · refine ⟨?_, Or.inl ?_, fun i _ => rfl⟩
    · match r, hr with
      | 0, _ => rfl
      | 1, _ => rfl
      | 2, _ => rfl
      | 3, _ => rfl
      | 4, _ => rfl
      | 5, _ => rfl
      | k + 6, h => exact absurd h (by omega)
    · match r, hr with
      | 0, _ => rfl
      | 1, _ => rfl
      | 2, _ => rfl
      | 3, _ => rfl
      | 4, _ => rfl
      | 5, _ => rfl
      | k + 6, h => exact absurd h (by omega)
  · refine ⟨?_, Or.inl ?_, fun i _ => rfl⟩
    · match r, hr with
      | 0, _ => rfl
      | 1, _ => rfl
      | 2, _ => rfl
      | 3, _ => rfl
      | k + 4, h => exact absurd h (by omega)
    · match r, hr with
      | 0, _ => rfl
      | 1, _ => rfl
      | 2, _ => rfl
      | 3, _ => rfl
      | k + 4, h => exact absurd h (by omega)
  · match k, hk with
    | 0, _ => rfl
    | 1, _ => rfl
    | 2, _ => rfl
    | k + 3, h => exact absurd h (by omega)
