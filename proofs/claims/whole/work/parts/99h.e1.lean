/-! the reference's answers hang on its own cells alone -/
def gl (A B : St) : St := fun c => if c < 40 then A c else B c
theorem gl_of {A B : St} (h : ∀ c, c < 40 → B c = A c) : gl A B = B := by
  funext c
  unfold gl
  split
  · rename_i hc; exact (h c hc).symm
  · rfl
theorem e_aM_ways (A B : St) (what : Int) : aM_ways (gl A B) what = aM_ways A what := rfl
theorem e_aM_odds (A B : St) (part : Int) : aM_odds (gl A B) part = aM_odds A part := rfl
theorem e_aM_shift (A B : St) (sign by_ : Int) : aM_shift (gl A B) sign by_ = aM_shift A sign by_ := rfl
theorem e_aM_better (A B : St) (g one other : Int) : aM_better (gl A B) g one other = aM_better A g one other := rfl
theorem e_aM_idle (A B : St) : aM_idle (gl A B)  = aM_idle A  := rfl
theorem e_aM_deaf (A B : St) : aM_deaf (gl A B)  = aM_deaf A  := rfl
theorem e_aM_enough (A B : St) : aM_enough (gl A B)  = aM_enough A  := rfl
theorem e_aM_near (A B : St) (what : Int) : aM_near (gl A B) what = aM_near A what := rfl
theorem e_aM_when (A B : St) (g what : Int) : aM_when (gl A B) g what = aM_when A g what := rfl
theorem e_aM_gain (A B : St) (g : Int) : aM_gain (gl A B) g = aM_gain A g := rfl
theorem e_aM_moment (A B : St) (what : Int) : aM_moment (gl A B) what = aM_moment A what := rfl
theorem e_aM_fits (A B : St) (sign : Int) : aM_fits (gl A B) sign = aM_fits A sign := rfl
theorem e_aM_lies (A B : St) : aM_lies (gl A B)  = aM_lies A  := rfl
theorem e_aM_turnsAt (A B : St) (offs g : Int) : aM_turnsAt (gl A B) offs g = aM_turnsAt A offs g := rfl
theorem e_aM_opens (A B : St) (offs : Int) : aM_opens (gl A B) offs = aM_opens A offs := rfl
theorem e_aM_route (A B : St) (sign what : Int) : aM_route (gl A B) sign what = aM_route A sign what := rfl
theorem e_aM_waits (A B : St) (g what : Int) : aM_waits (gl A B) g what = aM_waits A g what := rfl
theorem e_aM_best (A B : St) (z g what : Int) : aM_best (gl A B) z g what = aM_best A z g what := rfl
theorem e_pwM (A B : St) (one other k : Int) : pwM (gl A B) one other k = pwM A one other k := rfl
theorem e_aM_pair (A B : St) (one other what : Int) : aM_pair (gl A B) one other what = aM_pair A one other what := rfl
theorem e_aM_sure (A B : St) (one other : Int) : aM_sure (gl A B) one other = aM_sure A one other := rfl
theorem e_aM_rest (A B : St) (one other i : Int) : aM_rest (gl A B) one other i = aM_rest A one other i := rfl
theorem e_aM_sets (A B : St) (i : Int) : aM_sets (gl A B) i = aM_sets A i := rfl
theorem e_aM_guard (A B : St) (g what : Int) : aM_guard (gl A B) g what = aM_guard A g what := rfl
theorem e_aM_sign (A B : St) (s what : Int) : aM_sign (gl A B) s what = aM_sign A s what := rfl
theorem e_aM_hears (A B : St) (g s : Int) : aM_hears (gl A B) g s = aM_hears A g s := rfl
theorem e_aM_turned (A B : St) (n g : Int) : aM_turned (gl A B) n g = aM_turned A n g := rfl
theorem e_aM_opened (A B : St) (n : Int) : aM_opened (gl A B) n = aM_opened A n := rfl
theorem e_aM_count (A B : St) (what : Int) : aM_count (gl A B) what = aM_count A what := rfl
theorem e_ngO (A B : St) (s : Int) : ngO (gl A B) s = ngO A s := rfl
theorem e_ngB (A B : St) : ngB (gl A B)  = ngB A  := rfl
theorem e_aM_fault (A B : St) (sort : Int) : aM_fault (gl A B) sort = aM_fault A sort := rfl
theorem e_exF (A B : St) : ∀ q : Nat, exF (gl A B) q = exF A q
  | 0 => rfl
  | q + 1 => by
    rw [exF, exF, e_exF A B q]
    rfl
theorem e_aM_exact (A B : St) (what : Int) : aM_exact (gl A B) what = aM_exact A what := by
  unfold aM_exact
  rw [e_exF]
  rfl
theorem e_lsF (A B : St) (risk : Int) : ∀ q : Nat, lsF (gl A B) risk q = lsF A risk q
  | 0 => rfl
  | q + 1 => by
    rw [lsF, lsF, e_lsF A B risk q]
    rfl
theorem e_aM_lossy (A B : St) (risk : Int) : aM_lossy (gl A B) risk = aM_lossy A risk := by
  unfold aM_lossy
  rw [e_lsF]
  rfl
theorem e_hpF (A B : St) (g : Nat) (r : Int × Int) : ∀ s : Nat, hpF (gl A B) g s r = hpF A g s r
  | 0 => rfl
  | s + 1 => by
    rw [hpF, hpF, e_hpF A B g r s]
    rfl
theorem e_hqF (A B : St) (n : Nat) : ∀ g : Nat, hqF (gl A B) n g = hqF A n g
  | 0 => rfl
  | g + 1 => by rw [hqF, hqF, e_hqF A B n g, e_hpF]
theorem e_aM_helper (A B : St) (what : Int) : aM_helper (gl A B) what = aM_helper A what := by
  unfold aM_helper
  rw [e_hqF]
  rfl
