/-! ALL CALLS, from the start on -/
theorem sims_all : ∃ (R : XS → Prop) (r0 : Int32) (σ1 : XS), fX10_empties 1000000 xs0 = some (r0, σ1) ∧ R σ1 ∧ SimAll 1000000 R := by
  have g0 : ∀ c k, c ≠ 10 → xs0 c k = 0 := by
    intro c k hc
    show (if c = 10 then (if k < 6 then 3 else 0) else 0) = (0 : Int32)
    rw [if_neg hc]
  have g1 : ∀ k, k < 6 → xs0 10 k = 3 := by
    intro k hk
    show (if 10 = 10 then (if k < 6 then 3 else 0) else 0) = (3 : Int32)
    rw [if_pos rfl, if_pos hk]
  obtain ⟨τ, h1, h2⟩ := start_rr (N := 1000000) (by decide) (σ := xs0) g0 g1
  exact ⟨RR, 0, τ, h1, h2, sim_write, sim_erase, sim_fault (by decide), sim_customs (by decide), sim_word, sim_ware, sim_clerk, sim_rhyme (by decide), sim_as (by decide), sim_clerkAs (by decide), sim_put, sim_wipe, sim_line, sim_counts (by decide), sim_scans (by decide), sim_passes (by decide), sim_declare (by decide), sim_prose (by decide), sim_day (by decide), sim_undo (by decide), sim_keep (by decide), sim_back (by decide), sim_shortest (by decide), sim_shortestWord (by decide), sim_forAll (by decide), sim_hidden (by decide), sim_altered (by decide), sim_laden (by decide), sim_left (by decide), sim_odds (by decide), sim_year (by decide), sim_secret, sim_counted, sim_canBe (by decide), sim_canBeWord (by decide), sim_count (by decide)⟩
