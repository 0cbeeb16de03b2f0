def hdM (al f : Int → Int) (g s : Int) : Int := if al (5 * g + s) < 0 ∨ f s = 1000000 then 1000000 else f s + al (5 * g + s)
theorem t_M_heardAt (S : St) (g s : Int) (Q : Option AV → St → Prop) (hg : 0 ≤ g ∧ g < 4) (hs : 0 ≤ s ∧ s < 5) (hb : -1000 ≤ S 22 s ∧ S 22 s ≤ 1000000) (hl : S 19 (5 * g + s) ≤ 9) (hQ : Q (some (.inl (hdM (S 19) (S 22) g s))) S) : Smm H_M_heardAt 0 [some (.inr (.inr 0)), some (.inl g), some (.inl s), none] [] S Q := by
  have e0 : i32 (i32 (5 * g) + s) = 5 * g + s := by unfold i32; omega
  refine sound ok_M_heardAt [] 60 ?_
  refine ⟨by rw [e0]; omega, ?_⟩
  refine ⟨fun h1 => ?_, fun h1 => ?_⟩
  · rw [e0] at h1
    have e1 : hdM (S 19) (S 22) g s = 1000000 := by unfold hdM; rw [if_pos (Or.inl h1)]
    rw [e1] at hQ
    exact hQ
  · rw [e0] at h1
    refine ⟨hs, ?_⟩
    refine ⟨fun h2 => ?_, fun h2 => ?_⟩
    · refine ⟨hs, ?_⟩
      have e1 : hdM (S 19) (S 22) g s = i32 (S 22 s + S 19 (i32 (i32 (5 * g) + s))) := by
        unfold hdM
        rw [if_neg (by omega), e0]
        unfold i32
        omega
      rw [e1] at hQ
      exact hQ
    · have e1 : hdM (S 19) (S 22) g s = 1000000 := by unfold hdM; rw [if_pos (Or.inr h2)]
      rw [e1] at hQ
      exact hQ
theorem t_test (S : St) (Q : Option AV → St → Prop) : Smm H_M_goes 23 [some (.inr (.inr 0)), some (.inl 0), none] [] S Q := by
  refine sound ok_M_goes [2] 100 ?_
  refine ⟨?_, ?_⟩
  · sorry
  · refine ⟨?_, ?_⟩
    · sorry
    · refine t_M_heardAt _ _ _ _ ?_ ?_ ?_ ?_ ?_
      · sorry
      · sorry
      · sorry
      · sorry
      · trace_state
        refine ⟨fun h1 => ?_, fun h1 => ?_⟩
        · trace_state
          sorry
        · sorry
