/-! each call of the class, then of the reference: the same answer, and the states stay related -/
theorem xs_gl {S S' : St} (h : Xs S S') : ∃ B, S' = gl S B := ⟨S', (gl_of (fun c hc => h c (Or.inl hc))).symm⟩
theorem rel_g {A B S : St} (h : Rel A S) : Rel (gl A B) S := ⟨relB_gl h.1, caX_gl h.2⟩
theorem rel_mm {S T : St} (h : Rel S S) (hF : Fr [17, 18, 19, 20, 21, 22, 23, 24, 25, 26, 27, 28, 29, 31] [(0, 0), (0, 38)] S T) : Rel T T := rel_x (rel_m h hF) (m_x hF rfl)
theorem rel_tt {S : St} (h : Rel S S) : Rel (th S) (th S) := rel_x (rel_th h) (m_x (th_fr S) rfl)
theorem rel_u2 {A S B : St} (h : Rel A (gl S B)) : Rel (gl A B) (gl A B) := rel_x (rel_g h) (fun c hc => by
  show (if c < 40 then A c else B c) = (if c < 40 then S c else B c)
  rw [if_neg (by omega), if_neg (by omega)])
theorem up_gl (A B : St) {c : Nat} (j v : Int) (hc : c < 40) : up (gl A B) c j v = gl (up A c j v) B := by
  funext c'
  unfold up gl
  by_cases h : c' = c
  · subst h
    simp only [if_true, if_pos hc]
  · simp only [if_neg h]
theorem th_gl (A B : St) : th (gl A B) = gl (th A) B := up_gl A B 0 0 (by decide)
theorem cmB_gl (A B : St) (b : Int) : cmB (gl A B) b = gl (cmB A b) B := by
  unfold cmB
  split
  · rfl
  · rw [up_gl _ _ _ _ (by decide), up_gl _ _ _ _ (by decide)]
    rfl
theorem cmS_gl (A B : St) (b : Int) : cmS (gl A B) b = gl (cmS A b) B := by
  unfold cmS
  rw [cmB_gl, cmB_gl, cmB_gl, cmB_gl]
theorem fdS_gl (A B : St) (a b c d e : Int) : fdS (gl A B) a b c d e = gl (fdS A a b c d e) B := by
  unfold fdS
  rw [th_gl, cmS_gl, cmS_gl, cmS_gl, cmS_gl, cmS_gl]
theorem scS_gl (A B : St) (g s p : Int) : scS (gl A B) g s p = gl (scS A g s p) B := by
  unfold scS
  rw [th_gl, up_gl _ _ _ _ (by decide), up_gl _ _ _ _ (by decide), up_gl _ _ _ _ (by decide), up_gl _ _ _ _ (by decide)]
  rfl
theorem fr_gl {X : List Nat} {Y : List (Nat × Int)} {S B T : St} (h : Fr X Y (gl S B) T) : Fr X Y S (gl T S) := by
  intro c j hx hy
  have := h c j hx hy
  unfold gl at this ⊢
  by_cases hc : c < 40
  · rw [if_pos hc] at this ⊢
    exact this
  · rw [if_neg hc]
theorem rel_t2 {X : List Nat} {Y : List (Nat × Int)} {S B T : St} (hF : Fr X Y (gl S B) T) (hX : (X.all (fun c => Nat.blt c 40) && Y.all (fun q => Nat.blt q.1 40)) = true) (h : Rel (gl T S) (gl S B)) : Rel T T := by
  have h2 : Rel T (gl S B) := h
  exact rel_x h2 (m_x hF hX)
theorem ng_gl {S B T : St} (h : ngS (gl S B) T) : ngS S (gl T S) := ⟨fr_gl h.1, h.2⟩
theorem im_gl {S B T : St} (h : imS (gl S B) T) : imS S (gl T S) := ⟨fr_gl h.1, h.2⟩
theorem bk_gl {S B T : St} (h : bkS (gl S B) T) : bkS S (gl T S) := ⟨fr_gl h.1, h.2⟩
theorem ld_gl {S B T : St} {p : PS} (h : ldT (gl S B) p T) : ldT S p (gl T S) := ⟨fr_gl h.1, h.2⟩
theorem pl_gl {S B T : St} {rc : List Int} (h : plT (gl S B) rc T) : plT S rc (gl T S) := ⟨fr_gl h.1, h.2⟩
/-- what the law's case needs -/
def Two (hx hm : Hd) (L M : LL) (S : St) : Prop := Smm hx 0 L [] S (fun r S1 => ∃ v, r = some (.inl v) ∧ Smm hm 0 M [] S1 (fun r2 S2 => r2 = some (.inl v) ∧ Rel S2 S2))
theorem w_ways (S : St) (a1 : Int) (h : Rel S S) : Two H_X_ways H_M_ways [some (.inr (.inr 40)), some (.inl a1)] [some (.inr (.inr 0)), some (.inl a1)] S := by
  refine t_X_ways S S a1 _ h (fun S' hx hr => ⟨_, rfl, ?_⟩)
  obtain ⟨B, rfl⟩ := xs_gl hx
  have h2 : Rel (gl S B) (gl S B) := rel_g hr
  exact t_M_ways (gl S B) a1 _ h2.1.1.1 h2.1.1.2.2.1 (fun T hF => ⟨congrArg (fun z => some (Sum.inl z)) (e_aM_ways S B a1), rel_mm h2 hF⟩)
theorem w_odds (S : St) (a1 : Int) (h : Rel S S) : Two H_X_odds H_M_odds [some (.inr (.inr 40)), some (.inl a1)] [some (.inr (.inr 0)), some (.inl a1), none, none, none] S := by
  refine t_X_odds S S a1 _ h (fun S' hx hr => ⟨_, rfl, ?_⟩)
  obtain ⟨B, rfl⟩ := xs_gl hx
  have h2 : Rel (gl S B) (gl S B) := rel_g hr
  exact t_M_odds (gl S B) a1 _ h2.1.1.1 h2.1.1.2.2.1 (fun T hF => ⟨congrArg (fun z => some (Sum.inl z)) (e_aM_odds S B a1), rel_mm h2 hF⟩)
theorem w_turnsAt (S : St) (a1 a2 : Int) (h : Rel S S) (hc : i32 a1 = a1) : Two H_X_turnsAt H_M_turnsAt [some (.inr (.inr 40)), some (.inl a1), some (.inl a2)] [some (.inr (.inr 0)), some (.inl a1), some (.inl a2)] S := by
  refine t_X_turnsAt S S a1 a2 _ hc h (fun S' hx hr => ⟨_, rfl, ?_⟩)
  obtain ⟨B, rfl⟩ := xs_gl hx
  have h2 : Rel (gl S B) (gl S B) := rel_g hr
  exact t_M_turnsAt (gl S B) a1 a2 _ hc h2.1.1.1 h2.1.1.2.2.1 (fun T hF => ⟨congrArg (fun z => some (Sum.inl z)) (e_aM_turnsAt S B a1 a2), rel_mm h2 hF⟩)
theorem w_opens (S : St) (a1 : Int) (h : Rel S S) (hc : i32 a1 = a1) : Two H_X_opens H_M_opens [some (.inr (.inr 40)), some (.inl a1)] [some (.inr (.inr 0)), some (.inl a1)] S := by
  refine t_X_opens S S a1 _ hc h (fun S' hx hr => ⟨_, rfl, ?_⟩)
  obtain ⟨B, rfl⟩ := xs_gl hx
  have h2 : Rel (gl S B) (gl S B) := rel_g hr
  exact t_M_opens (gl S B) a1 _ hc h2.1.1.1 h2.1.1.2.2.1 (fun T hF => ⟨congrArg (fun z => some (Sum.inl z)) (e_aM_opens S B a1), rel_mm h2 hF⟩)
theorem w_when (S : St) (a1 a2 : Int) (h : Rel S S) : Two H_X_when H_M_when [some (.inr (.inr 40)), some (.inl a1), some (.inl a2), none] [some (.inr (.inr 0)), some (.inl a1), some (.inl a2), none, none, none, none] S := by
  refine t_X_when S S a1 a2 _ h (fun S' hx hr => ⟨_, rfl, ?_⟩)
  obtain ⟨B, rfl⟩ := xs_gl hx
  have h2 : Rel (gl S B) (gl S B) := rel_g hr
  exact t_M_when (gl S B) a1 a2 _ h2.1.1.1 h2.1.1.2.2.1 (fun T hF => ⟨congrArg (fun z => some (Sum.inl z)) (e_aM_when S B a1 a2), rel_mm h2 hF⟩)
theorem w_near (S : St) (a1 : Int) (h : Rel S S) : Two H_X_near H_M_near [some (.inr (.inr 40)), some (.inl a1), none] [some (.inr (.inr 0)), some (.inl a1), none, none, none] S := by
  refine t_X_near S S a1 _ h (fun S' hx hr => ⟨_, rfl, ?_⟩)
  obtain ⟨B, rfl⟩ := xs_gl hx
  have h2 : Rel (gl S B) (gl S B) := rel_g hr
  exact t_M_near (gl S B) a1 _ h2.1.1.1 h2.1.1.2.2.1 (fun T hF => ⟨congrArg (fun z => some (Sum.inl z)) (e_aM_near S B a1), rel_mm h2 hF⟩)
theorem w_enough (S : St) (h : Rel S S) : Two H_X_enough H_M_enough [some (.inr (.inr 40)), none] [some (.inr (.inr 0)), none, none] S := by
  refine t_X_enough S S  _ h (fun S' hx hr => ⟨_, rfl, ?_⟩)
  obtain ⟨B, rfl⟩ := xs_gl hx
  have h2 : Rel (gl S B) (gl S B) := rel_g hr
  exact t_M_enough (gl S B)  _ h2.1.1.1 h2.1.1.2.2.1 (fun T hF => ⟨congrArg (fun z => some (Sum.inl z)) (e_aM_enough S B ), rel_mm h2 hF⟩)
theorem w_best (S : St) (a1 a2 : Int) (h : Rel S S) : Two H_X_best H_M_best [some (.inr (.inr 40)), some (.inl a1), some (.inl a2)] [some (.inr (.inr 0)), some (.inl a1), some (.inl a2), none] S := by
  refine t_X_best S S a1 a2 _ h (fun S' hx hr => ⟨_, rfl, ?_⟩)
  obtain ⟨B, rfl⟩ := xs_gl hx
  have h2 : Rel (gl S B) (gl S B) := rel_g hr
  exact t_M_best (gl S B) a1 a2 _ h2.1.1.1 h2.1.1.2.2.1 (fun T hF => ⟨congrArg (fun z => some (Sum.inl z)) (e_aM_best S B 0 a1 a2), rel_mm h2 hF⟩)
theorem w_pair (S : St) (a1 a2 a3 : Int) (h : Rel S S) : Two H_X_pair H_M_pair [some (.inr (.inr 40)), some (.inl a1), some (.inl a2), some (.inl a3), none, none] [some (.inr (.inr 0)), some (.inl a1), some (.inl a2), some (.inl a3), none, none, none] S := by
  refine t_X_pair S S a1 a2 a3 _ h (fun S' hx hr => ⟨_, rfl, ?_⟩)
  obtain ⟨B, rfl⟩ := xs_gl hx
  have h2 : Rel (gl S B) (gl S B) := rel_g hr
  exact t_M_pair (gl S B) a1 a2 a3 _ h2.1.1.1 h2.1.1.2.2.1 (fun T hF => ⟨congrArg (fun z => some (Sum.inl z)) (e_aM_pair S B a1 a2 a3), rel_mm h2 hF⟩)
theorem w_sure (S : St) (a1 a2 : Int) (h : Rel S S) : Two H_X_sure H_M_sure [some (.inr (.inr 40)), some (.inl a1), some (.inl a2)] [some (.inr (.inr 0)), some (.inl a1), some (.inl a2), none, none, none] S := by
  refine t_X_sure S S a1 a2 _ h (fun S' hx hr => ⟨_, rfl, ?_⟩)
  obtain ⟨B, rfl⟩ := xs_gl hx
  have h2 : Rel (gl S B) (gl S B) := rel_g hr
  exact t_M_sure (gl S B) a1 a2 _ h2.1.1.1 h2.1.1.2.2.1 (fun T hF => ⟨congrArg (fun z => some (Sum.inl z)) (e_aM_sure S B a1 a2), rel_mm h2 hF⟩)
theorem w_idle (S : St) (h : Rel S S) : Two H_X_idle H_M_idle [some (.inr (.inr 40)), none, none, none] [some (.inr (.inr 0)), none, none, none] S := by
  refine t_X_idle S S  _ h (fun S' hx hr => ⟨_, rfl, ?_⟩)
  obtain ⟨B, rfl⟩ := xs_gl hx
  have h2 : Rel (gl S B) (gl S B) := rel_g hr
  exact t_M_idle (gl S B)  _ h2.1.1.1 h2.1.1.2.2.1 (fun T hF => ⟨congrArg (fun z => some (Sum.inl z)) (e_aM_idle S B ), rel_mm h2 hF⟩)
theorem w_shift (S : St) (a1 a2 : Int) (h : Rel S S) : Two H_X_shift H_M_shift [some (.inr (.inr 40)), some (.inl a1), some (.inl a2)] [some (.inr (.inr 0)), some (.inl a1), some (.inl a2)] S := by
  refine t_X_shift S S a1 a2 _ h (fun S' hx hr => ⟨_, rfl, ?_⟩)
  obtain ⟨B, rfl⟩ := xs_gl hx
  have h2 : Rel (gl S B) (gl S B) := rel_g hr
  exact t_M_shift (gl S B) a1 a2 _ h2.1.1.1 h2.1.1.2.2.1 (fun T hF => ⟨congrArg (fun z => some (Sum.inl z)) (e_aM_shift S B a1 a2), rel_mm h2 hF⟩)
theorem w_waits (S : St) (a1 a2 : Int) (h : Rel S S) : Two H_X_waits H_M_waits [some (.inr (.inr 40)), some (.inl a1), some (.inl a2)] [some (.inr (.inr 0)), some (.inl a1), some (.inl a2), none, none] S := by
  refine t_X_waits S S a1 a2 _ h (fun S' hx hr => ⟨_, rfl, ?_⟩)
  obtain ⟨B, rfl⟩ := xs_gl hx
  have h2 : Rel (gl S B) (gl S B) := rel_g hr
  exact t_M_waits (gl S B) a1 a2 _ h2.1.1.1 h2.1.1.2.2.1 (fun T hF => ⟨congrArg (fun z => some (Sum.inl z)) (e_aM_waits S B a1 a2), rel_mm h2 hF⟩)
theorem w_gain (S : St) (a1 : Int) (h : Rel S S) : Two H_X_gain H_M_gain [some (.inr (.inr 40)), some (.inl a1), none] [some (.inr (.inr 0)), some (.inl a1), none] S := by
  refine t_X_gain S S a1 _ h (fun S' hx hr => ⟨_, rfl, ?_⟩)
  obtain ⟨B, rfl⟩ := xs_gl hx
  have h2 : Rel (gl S B) (gl S B) := rel_g hr
  exact t_M_gain (gl S B) a1 _ h2.1.1.1 h2.1.1.2.2.1 (fun T hF => ⟨congrArg (fun z => some (Sum.inl z)) (e_aM_gain S B a1), rel_mm h2 hF⟩)
theorem w_rest (S : St) (a1 a2 a3 : Int) (h : Rel S S) : Two H_X_rest H_M_rest [some (.inr (.inr 40)), some (.inl a1), some (.inl a2), some (.inl a3)] [some (.inr (.inr 0)), some (.inl a1), some (.inl a2), some (.inl a3), none, none, none] S := by
  refine t_X_rest S S a1 a2 a3 _ h (fun S' hx hr => ⟨_, rfl, ?_⟩)
  obtain ⟨B, rfl⟩ := xs_gl hx
  have h2 : Rel (gl S B) (gl S B) := rel_g hr
  exact t_M_rest (gl S B) a1 a2 a3 _ h2.1.1.1 h2.1.1.2.2.1 (fun T hF => ⟨congrArg (fun z => some (Sum.inl z)) (e_aM_rest S B a1 a2 a3), rel_mm h2 hF⟩)
theorem w_thief (S : St) (a1 a2 : Int) (h : Rel S S) : Two H_X_thief H_M_thief [some (.inr (.inr 40)), some (.inl a1), some (.inl a2)] [some (.inr (.inr 0)), some (.inl a1), some (.inl a2), none] S := by
  refine t_X_thief S S a1 a2 _ h (fun S' hx hr => ⟨_, rfl, ?_⟩)
  obtain ⟨B, rfl⟩ := xs_gl hx
  have h2 : Rel (gl S B) (gl S B) := rel_g hr
  exact t_M_thief (gl S B) a1 a2 _ h2.1.1.1 h2.1.1.2.2.1 (fun T hF => ⟨congrArg (fun z => some (Sum.inl z)) (e_aM_best S B 1 a1 a2), rel_mm h2 hF⟩)
theorem w_fits (S : St) (a1 : Int) (h : Rel S S) : Two H_X_fits H_M_fits [some (.inr (.inr 40)), some (.inl a1), none, none, none, none] [some (.inr (.inr 0)), some (.inl a1), none, none] S := by
  refine t_X_fits S S a1 _ h (fun S' hx hr => ⟨_, rfl, ?_⟩)
  obtain ⟨B, rfl⟩ := xs_gl hx
  have h2 : Rel (gl S B) (gl S B) := rel_g hr
  exact t_M_fits (gl S B) a1 _ h2.1.1.1 h2.1.1.2.2.1 h2.1.1.2.2.2.2.1 (fun T hF => ⟨congrArg (fun z => some (Sum.inl z)) (e_aM_fits S B a1), rel_mm h2 hF⟩)
theorem w_lies (S : St) (h : Rel S S) : Two H_X_lies H_M_lies [some (.inr (.inr 40)), none, none, none, none, none] [some (.inr (.inr 0)), none, none] S := by
  refine t_X_lies S S  _ h (fun S' hx hr => ⟨_, rfl, ?_⟩)
  obtain ⟨B, rfl⟩ := xs_gl hx
  have h2 : Rel (gl S B) (gl S B) := rel_g hr
  exact t_M_lies (gl S B)  _ h2.1.1.1 h2.1.1.2.2.1 h2.1.1.2.2.2.2.1 (fun T hF => ⟨congrArg (fun z => some (Sum.inl z)) (e_aM_lies S B ), rel_mm h2 hF⟩)
theorem w_sets (S : St) (a1 : Int) (h : Rel S S) : Two H_X_sets H_M_sets [some (.inr (.inr 40)), some (.inl a1), none, none, none] [some (.inr (.inr 0)), some (.inl a1), none, none, none] S := by
  refine t_X_sets S S a1 _ h (fun S' hx hr => ⟨_, rfl, ?_⟩)
  obtain ⟨B, rfl⟩ := xs_gl hx
  have h2 : Rel (gl S B) (gl S B) := rel_g hr
  exact t_M_sets (gl S B) a1 _ h2.1.1.1 h2.1.1.2.2.1 (fun T hF => ⟨congrArg (fun z => some (Sum.inl z)) (e_aM_sets S B a1), rel_mm h2 hF⟩)
theorem w_moment (S : St) (a1 : Int) (h : Rel S S) : Two H_X_moment H_M_moment [some (.inr (.inr 40)), some (.inl a1)] [some (.inr (.inr 0)), some (.inl a1), none, none, none, none] S := by
  refine t_X_moment S S a1 _ h (fun S' hx hr => ⟨_, rfl, ?_⟩)
  obtain ⟨B, rfl⟩ := xs_gl hx
  have h2 : Rel (gl S B) (gl S B) := rel_g hr
  exact t_M_moment (gl S B) a1 _ h2.1.1.1 h2.1.1.2.2.1 (fun T hF => ⟨congrArg (fun z => some (Sum.inl z)) (e_aM_moment S B a1), rel_mm h2 hF⟩)
theorem w_better (S : St) (a1 a2 a3 : Int) (h : Rel S S) : Two H_X_better H_M_better [some (.inr (.inr 40)), some (.inl a1), some (.inl a2), some (.inl a3)] [some (.inr (.inr 0)), some (.inl a1), some (.inl a2), some (.inl a3), none] S := by
  refine t_X_better S S a1 a2 a3 _ h (fun S' hx hr => ⟨_, rfl, ?_⟩)
  obtain ⟨B, rfl⟩ := xs_gl hx
  have h2 : Rel (gl S B) (gl S B) := rel_g hr
  exact t_M_better (gl S B) a1 a2 a3 _ h2.1.1.1 h2.1.1.2.2.1 (fun T hF => ⟨congrArg (fun z => some (Sum.inl z)) (e_aM_better S B a1 a2 a3), rel_mm h2 hF⟩)
theorem w_exact (S : St) (a1 : Int) (h : Rel S S) : Two H_X_exact H_M_exact [some (.inr (.inr 40)), some (.inl a1), none, none, none, none, none, none] [some (.inr (.inr 0)), some (.inl a1), none, none, none, none, none, none] S := by
  refine t_X_exact S S a1 _ h (fun S' hx hr => ⟨_, rfl, ?_⟩)
  obtain ⟨B, rfl⟩ := xs_gl hx
  have h2 : Rel (gl S B) (gl S B) := rel_g hr
  exact t_M_exact (gl S B) a1 _ h2.1.1.1 h2.1.1.2.2.1 (fun T hF => ⟨congrArg (fun z => some (Sum.inl z)) (e_aM_exact S B a1), rel_mm h2 hF⟩)
theorem w_lossy (S : St) (a1 : Int) (h : Rel S S) : Two H_X_lossy H_M_lossy [some (.inr (.inr 40)), some (.inl a1), none, none, none, none, none, none, none] [some (.inr (.inr 0)), some (.inl a1), none, none, none, none, none, none, none, none, none, none] S := by
  refine t_X_lossy S S a1 _ h (fun S' hx hr => ⟨_, rfl, ?_⟩)
  obtain ⟨B, rfl⟩ := xs_gl hx
  have h2 : Rel (gl S B) (gl S B) := rel_g hr
  exact t_M_lossy (gl S B) a1 _ h2.1.1.1 h2.1.1.2.2.1 (fun T hF => ⟨congrArg (fun z => some (Sum.inl z)) (e_aM_lossy S B a1), rel_mm h2 hF⟩)
theorem w_route (S : St) (a1 a2 : Int) (h : Rel S S) : Two H_X_route H_M_route [some (.inr (.inr 40)), some (.inl a1), some (.inl a2), none] [some (.inr (.inr 0)), some (.inl a1), some (.inl a2), none, none, none, none, none] S := by
  refine t_X_route S S a1 a2 _ h (fun S' hx hr => ⟨_, rfl, ?_⟩)
  obtain ⟨B, rfl⟩ := xs_gl hx
  have h2 : Rel (gl S B) (gl S B) := rel_g hr
  exact t_M_route (gl S B) a1 a2 _ h2.1.1.1 (fun T hF => ⟨congrArg (fun z => some (Sum.inl z)) (e_aM_route S B a1 a2), rel_mm h2 hF⟩)
theorem w_deaf (S : St) (h : Rel S S) : Two H_X_deaf H_M_deaf [some (.inr (.inr 40)), none, none, none] [some (.inr (.inr 0)), none, none, none, none] S := by
  refine t_X_deaf S S  _ h (fun S' hx hr => ⟨_, rfl, ?_⟩)
  obtain ⟨B, rfl⟩ := xs_gl hx
  have h2 : Rel (gl S B) (gl S B) := rel_g hr
  exact t_M_deaf (gl S B)  _ h2.1.1.1 h2.1.1.2.2.1 (fun T hF => ⟨congrArg (fun z => some (Sum.inl z)) (e_aM_deaf S B ), rel_mm h2 hF⟩)
theorem w_helper (S : St) (a1 : Int) (h : Rel S S) : Two H_X_helper H_M_helper [some (.inr (.inr 40)), some (.inl a1), none, none, none, none, none] [some (.inr (.inr 0)), some (.inl a1), none, none, none, none, none] S := by
  refine t_X_helper S S a1 _ h (fun S' hx hr => ⟨_, rfl, ?_⟩)
  obtain ⟨B, rfl⟩ := xs_gl hx
  have h2 : Rel (gl S B) (gl S B) := rel_g hr
  exact t_M_helper (gl S B) a1 _ h2.1.1.1 h2.1.1.2.2.1 (fun T hF => ⟨congrArg (fun z => some (Sum.inl z)) (e_aM_helper S B a1), rel_mm h2 hF⟩)
theorem w_fault (S : St) (a1 : Int) (h : Rel S S) : Two H_X_fault H_M_fault [some (.inr (.inr 40)), some (.inl a1)] [some (.inr (.inr 0)), some (.inl a1)] S := by
  refine t_X_fault S S a1 _ h (fun S' hx hr => ⟨_, rfl, ?_⟩)
  obtain ⟨B, rfl⟩ := xs_gl hx
  have h2 : Rel (gl S B) (gl S B) := rel_g hr
  exact t_M_fault (gl S B) a1 _ h2.1.1.2.2.2.1 (fun T hF => ⟨congrArg (fun z => some (Sum.inl z)) (e_aM_fault S B a1), rel_x (rel_pe h2 (pe_of hF rfl)) (m_x hF rfl)⟩)
theorem w_guard (S : St) (a1 a2 : Int) (h : Rel S S) : Two H_X_guard H_M_guard [some (.inr (.inr 40)), some (.inl a1), some (.inl a2)] [some (.inr (.inr 0)), some (.inl a1), some (.inl a2)] S := by
  refine t_X_guard S S a1 a2 _ h ⟨_, rfl, ?_⟩
  exact t_M_guard S a1 a2 _ h.1.1.1 ⟨rfl, rel_tt h⟩
theorem w_hears (S : St) (a1 a2 : Int) (h : Rel S S) : Two H_X_hears H_M_hears [some (.inr (.inr 40)), some (.inl a1), some (.inl a2), none] [some (.inr (.inr 0)), some (.inl a1), some (.inl a2)] S := by
  refine t_X_hears S S a1 a2 _ h ⟨_, rfl, ?_⟩
  exact t_M_hears S a1 a2 _ h.1.1.1 ⟨rfl, rel_tt h⟩
theorem w_turned (S : St) (a1 a2 : Int) (h : Rel S S) : Two H_X_turned H_M_turned [some (.inr (.inr 40)), some (.inl a1), some (.inl a2)] [some (.inr (.inr 0)), some (.inl a1), some (.inl a2)] S := by
  refine t_X_turned S S a1 a2 _ h ⟨_, rfl, ?_⟩
  exact t_M_turned S a1 a2 _ h.1.1.2.2.2.2.2.1.1.2 h.1.1.1 ⟨rfl, rel_tt h⟩
theorem w_opened (S : St) (a1 : Int) (h : Rel S S) : Two H_X_opened H_M_opened [some (.inr (.inr 40)), some (.inl a1)] [some (.inr (.inr 0)), some (.inl a1)] S := by
  refine t_X_opened S S a1 _ h ⟨_, rfl, ?_⟩
  exact t_M_opened S a1 _ h.1.1.2.2.2.2.2.1.1.2 ⟨rfl, rel_tt h⟩
theorem w_count (S : St) (a1 : Int) (h : Rel S S) : Two H_X_count H_M_count [some (.inr (.inr 40)), some (.inl a1)] [some (.inr (.inr 0)), some (.inl a1), none, none] S := by
  refine t_X_count S S a1 _ h ⟨_, rfl, ?_⟩
  exact t_M_count S a1 _ h.1.1.2.2.2.2.2.1.1 ⟨rfl, rel_tt h⟩
theorem w_feed (S : St) (a1 a2 a3 a4 a5 : Int) (h : Rel S S) : Two H_X_feed H_M_feed [some (.inr (.inr 40)), some (.inl a1), some (.inl a2), some (.inl a3), some (.inl a4), some (.inl a5), none] [some (.inr (.inr 0)), some (.inl a1), some (.inl a2), some (.inl a3), some (.inl a4), some (.inl a5)] S := by
  refine t_X_feed S S a1 a2 a3 a4 a5 _ h (fun h0 => ⟨_, rfl, ?_⟩) (fun h1 S' hx hr => ⟨_, rfl, ?_⟩)
  · exact t_M_feed S a1 a2 a3 a4 a5 _ h.1.1.2.2.2.1.1 (fun _ => ⟨rfl, rel_tt h⟩) (fun z => by omega)
  · obtain ⟨B, rfl⟩ := xs_gl hx
    refine t_M_feed (gl S B) a1 a2 a3 a4 a5 _ h.1.1.2.2.2.1.1 (fun z => absurd h1 (Int.not_le.mpr z)) (fun _ => ⟨rfl, ?_⟩)
    rw [fdS_gl]
    exact rel_u2 hr
theorem w_end (S : St) (a1 : Int) (h : Rel S S) : Two H_X_end H_M_end [some (.inr (.inr 40)), some (.inl a1)] [some (.inr (.inr 0)), some (.inl a1)] S := by
  refine t_X_end S S a1 _ h (fun h0 => ⟨_, rfl, ?_⟩) (fun h1 S' hx hr => ⟨_, rfl, ?_⟩)
  · exact t_M_end S a1 _ (fun _ => ⟨rfl, rel_tt h⟩) (fun z => absurd z h0)
  · obtain ⟨B, rfl⟩ := xs_gl hx
    refine t_M_end (gl S B) a1 _ (fun z => absurd h1 z) (fun _ => ⟨rfl, ?_⟩)
    rw [th_gl, up_gl _ _ _ _ (by decide)]
    exact rel_u2 hr
theorem w_plan (S : St) (a1 a2 : Int) (h : Rel S S) : Two H_X_plan H_M_plan [some (.inr (.inr 40)), some (.inl a1), some (.inl a2)] [some (.inr (.inr 0)), some (.inl a1), some (.inl a2)] S := by
  refine t_X_plan S S a1 a2 _ h (fun h0 => ⟨_, rfl, ?_⟩) (fun h1 S' hx hr => ⟨_, rfl, ?_⟩)
  · exact t_M_plan S a1 a2 _ h.1.1.1 (fun _ => ⟨rfl, rel_tt h⟩) (fun z => absurd z h0)
  · obtain ⟨B, rfl⟩ := xs_gl hx
    refine t_M_plan (gl S B) a1 a2 _ h.1.1.1 (fun z => absurd h1 z) (fun _ => ⟨rfl, ?_⟩)
    rw [th_gl, up_gl _ _ _ _ (by decide)]
    exact rel_u2 hr
theorem w_scratch (S : St) (a1 a2 a3 : Int) (h : Rel S S) : Two H_X_scratch H_M_scratch [some (.inr (.inr 40)), some (.inl a1), some (.inl a2), some (.inl a3)] [some (.inr (.inr 0)), some (.inl a1), some (.inl a2), some (.inl a3)] S := by
  refine t_X_scratch S S a1 a2 a3 _ h (fun h0 => ⟨_, rfl, ?_⟩) (fun h1 S' hx hr => ⟨_, rfl, ?_⟩)
  · exact t_M_scratch S a1 a2 a3 _ h.1.1.2.2.2.2.1.1 (fun _ => ⟨rfl, rel_tt h⟩) (fun z => absurd z h0)
  · obtain ⟨B, rfl⟩ := xs_gl hx
    refine t_M_scratch (gl S B) a1 a2 a3 _ h.1.1.2.2.2.2.1.1 (fun z => absurd h1 z) (fun _ => ⟨rfl, ?_⟩)
    rw [scS_gl]
    exact rel_u2 hr
theorem w_seed (S : St) (v : Int) (h : Rel S S) : Two H_X_seed H_M_seed [some (.inr (.inr 40)), some (.inr (.inl v)), none] [some (.inr (.inr 0)), some (.inr (.inl v)), none] S := by
  refine t_X_seed S S v _ h (fun S' hx hr => ⟨_, rfl, ?_⟩)
  obtain ⟨B, rfl⟩ := xs_gl hx
  refine t_M_seed (gl S B) v _ ⟨rfl, ?_⟩
  rw [th_gl, up_gl _ _ _ _ (by decide)]
  exact rel_u2 hr
theorem w_undo (S : St) (h : Rel S S) : Two H_X_undo H_M_undo [some (.inr (.inr 40))] [some (.inr (.inr 0))] S := by
  refine t_X_undo S S _ h (fun h0 => ⟨_, rfl, ?_⟩) (fun h1 S' hx hr => ⟨_, rfl, ?_⟩)
  · exact t_M_undo S _ h.1.1.2.2.2.2.2.1.1 (fun _ => ⟨rfl, rel_tt h⟩) (fun z => absurd z h0)
  · obtain ⟨B, rfl⟩ := xs_gl hx
    refine t_M_undo (gl S B) _ h.1.1.2.2.2.2.2.1.1 (fun z => absurd h1 z) (fun _ => ⟨rfl, ?_⟩)
    rw [th_gl, up_gl _ _ _ _ (by decide), up_gl _ _ _ _ (by decide)]
    exact rel_u2 hr
theorem w_night (S : St) (h : Rel S S) : Two H_X_night H_M_night [some (.inr (.inr 40)), none, none, none] [some (.inr (.inr 0)), none] S := by
  refine t_X_night S S _ h (fun h0 => ⟨_, rfl, ?_⟩) (fun h1 h2 S' hx hr => ⟨_, rfl, ?_⟩)
  · exact t_M_night S _ h.1.1.2.2.2.2.2.1.1 h.1.1.1 h.1.1.2.2.1 (fun _ => ⟨rfl, rel_tt h⟩) (fun z1 z2 => absurd h0 (by intro q; rcases q with q | q; exact z1 q; exact z2 q))
  · obtain ⟨B, rfl⟩ := xs_gl hx
    refine t_M_night (gl S B) _ h.1.1.2.2.2.2.2.1.1 h.1.1.1 h.1.1.2.2.1 (fun z => absurd z (by intro q; rcases q with q | q; exact h1 q; exact h2 q)) (fun _ _ T hT => ⟨congrArg (fun z => some (Sum.inl z)) (e_ngB S B), ?_⟩)
    exact rel_t2 hT.1 rfl (hr _ (ng_gl hT))
theorem w_image (S : St) (h : Rel S S) : Two H_X_image H_M_image [some (.inr (.inr 40))] [some (.inr (.inr 0)), none] S := by
  refine t_X_image S S _ h (fun h0 => ⟨_, rfl, ?_⟩) (fun h1 S' hx hr => ⟨_, rfl, ?_⟩)
  · exact t_M_image S _ (fun _ => ⟨rfl, rel_tt h⟩) (fun z => absurd h0 z)
  · obtain ⟨B, rfl⟩ := xs_gl hx
    refine t_M_image (gl S B) _ (fun z => absurd z h1) (fun _ T hT => ⟨rfl, ?_⟩)
    exact rel_t2 hT.1 rfl (hr _ (im_gl hT))
theorem w_back (S : St) (h : Rel S S) : Two H_X_back H_M_back [some (.inr (.inr 40))] [some (.inr (.inr 0)), none] S := by
  refine t_X_back S S _ h (fun h0 => ⟨_, rfl, ?_⟩) (fun h1 h2 S' hx hr => ⟨_, rfl, ?_⟩)
  · exact t_M_back S _ (fun _ => ⟨rfl, rel_tt h⟩) (fun z1 z2 => absurd h0 (by intro q; rcases q with q | q; exact z1 q; exact z2 q))
  · obtain ⟨B, rfl⟩ := xs_gl hx
    refine t_M_back (gl S B) _ (fun z => absurd z (by intro q; rcases q with q | q; exact h1 q; exact h2 q)) (fun _ _ T hT => ⟨rfl, ?_⟩)
    exact rel_t2 hT.1 rfl (hr _ (bk_gl hT))
theorem w_text (S : St) (a1 : Int) (h : Rel S S) : Two H_X_text H_M_text [some (.inr (.inr 40)), some (.inl a1)] [some (.inr (.inr 0)), some (.inl a1), none] S := by
  have hl := rdT_len (t := S 1) h.1.1.2.2.2.1.1
  refine t_X_text S S a1 _ h (fun n1 n2 S' hx hr => ⟨_, rfl, ?_⟩) (fun q1 q2 S' hx hr => ⟨_, rfl, ?_⟩) (fun q1 q2 q3 S' hx hr => ⟨_, rfl, ?_⟩)
  · obtain ⟨B, rfl⟩ := xs_gl hx
    have h2 : Rel (gl S B) (gl S B) := rel_g hr
    exact t_M_text (gl S B) a1 _ h2.1.1.2.2.2.1 h2.1.1.2.2.1.1 hl (fun _ _ T hF => ⟨rfl, rel_x (rel_pe h2 (pe_of hF rfl)) (m_x hF rfl)⟩) (fun z1 z2 => absurd ⟨z1, z2⟩ n1) (fun z1 z2 z3 => absurd ⟨z1, z2, z3⟩ n2)
  · obtain ⟨B, rfl⟩ := xs_gl hx
    refine t_M_text (gl S B) a1 _ h.1.1.2.2.2.1 h.1.1.2.2.1.1 hl (fun z1 _ => absurd ⟨q1, q2⟩ z1) (fun _ _ T hT => ⟨rfl, ?_⟩) (fun z => by omega)
    exact rel_t2 hT.1 rfl (hr _ (ld_gl hT))
  · obtain ⟨B, rfl⟩ := xs_gl hx
    refine t_M_text (gl S B) a1 _ h.1.1.2.2.2.1 h.1.1.2.2.1.1 hl (fun _ z2 => absurd ⟨q1, q2, q3⟩ z2) (fun z => by omega) (fun _ _ _ T hT => ⟨rfl, ?_⟩)
    exact rel_t2 hT.1 rfl (hr _ (pl_gl hT))
