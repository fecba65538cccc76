/-! the start, and all calls -/
theorem rr_0 : RR XS0 z0 := by
  refine ⟨⟨0, by omega, rfl, rfl, fun i hi => by omega⟩, ⟨(fun _ => 0, fun _ _ => 0), (fun _ => 0, fun _ _ => 0, fun _ => false), 0, fun _ _ => 0, fun i => i, ⟨Or.inr ⟨rfl, rfl, rfl⟩, ?_, ?_, ?_, ?_, ?_, ?_, rfl, by decide⟩, ?_⟩, ?_, ?_⟩
  · exact ⟨⟨rfl, rfl, rfl⟩, fun h => absurd h (Nat.lt_irrefl _), fun _ => rfl, fun c hc => absurd hc (Nat.not_lt_zero _), fun w hw => absurd hw (Nat.not_lt_zero _), fun c hc => absurd hc (Nat.not_lt_zero _), fun c hc => absurd hc (Nat.not_lt_zero _)⟩
  · exact ⟨⟨rfl, rfl, rfl⟩, fun h => absurd h (Nat.lt_irrefl _), fun c hc => absurd hc (Nat.not_lt_zero _), fun w hw => absurd hw (Nat.not_lt_zero _), fun c hc => absurd hc (Nat.not_lt_zero _), fun c hc => absurd hc (Nat.not_lt_zero _)⟩
  · exact ⟨Nat.zero_le _, by decide, by decide, fun c hc => absurd hc (Nat.not_lt_zero _), fun c hc => absurd hc (Nat.not_lt_zero _)⟩
  · exact ⟨⟨rfl, rfl⟩, fun c hc => absurd hc (Nat.not_lt_zero _)⟩
  · exact ⟨⟨rfl, rfl⟩, fun w hw => absurd hw (Nat.not_lt_zero _), fun c hc => absurd hc (Nat.not_lt_zero _)⟩
  · exact ⟨by omega, rfl, rfl, fun k hk => by omega, fun k hk => by omega, fun i j h1 h2 => by omega, fun k hk => by omega⟩
  · exact ⟨0, 0, fun _ => (fun _ => 0, fun _ _ => 0, fun _ => false), by omega, by omega, rfl, rfl, rfl, fun j hj => by omega⟩
  · exact fun k hk => ⟨false, rfl, rfl, fun h => by cases h⟩
  · exact ⟨by show 0 ≤ 6; omega, rfl, rfl, fun j hj => absurd hj (Nat.not_lt_zero _)⟩
theorem rr_sim : Sim RR := ⟨st_feed, st_end, st_line, st_rule, st_coach, st_way, st_stop, st_rider, st_inside, st_outside, st_pass, st_shut, st_undo, st_run, st_soonest, st_row, st_latest, st_lost, st_voice, st_voices, st_put, st_family, st_meet, st_seen, st_gotIn, st_sit, st_seed, st_journeys, st_count, st_image, st_back⟩
