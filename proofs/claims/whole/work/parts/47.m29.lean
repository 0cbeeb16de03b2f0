/-! the reference: whether a land is whole; the land read -/
set_option maxHeartbeats 4000000 in
theorem t_M_isWhole (T : St) (p : PS) (Q : Option AV → St → Prop) (hp : okP p) (hP : psM p T) (h1 : whP p → Q (some (.inl 1)) T) (h0 : ¬ whP p → Q (some (.inl 0)) T) : Smm H_M_isWhole 0 [some (.inr (.inr 0)), none, none] [] T Q := by
  obtain ⟨⟨q5, q6, q7, q8⟩, hG, hS, hE⟩ := hP
  obtain ⟨⟨c1, c2, c3, c4, c5, c6, c7, c8, c9⟩, -, -, -, -⟩ := hp
  unfold whP at h1 h0
  generalize p.1.1 = ng at *
  generalize p.1.2.1 = ns at *
  generalize p.1.2.2.1 = ne at *
  generalize p.2.2.1 = Sg at *
  generalize p.2.2.2.1 = E at *
  have ears : 2 ≤ ng → 1 ≤ ns → (∀ s, 0 ≤ s → s < ns → 0 ≤ Sg (4 * s + 2) → Sg (4 * s + 3) < ng) → ∀ (h : Int) (x : Option AV), ((0 ≤ h ∧ h ≤ ne) ∧ ∀ i, 0 ≤ i → i < h → E (3 * i) < ns ∧ E (3 * i + 1) < ng ∧ ∀ k, 0 ≤ k → k < i → ¬ (E (3 * k) = E (3 * i) ∧ E (3 * k + 1) = E (3 * i + 1))) → Smm H_M_isWhole 67 [some (.inr (.inr 0)), some (.inl h), x] [] T Q := by
    intro g1 g2 g3
    refine lp_up (P := fun h x => Smm H_M_isWhole 67 [some (.inr (.inr 0)), some (.inl h), x] [] T Q) _ ne ?_ ?_
    · rintro h x hh ⟨hh2, hI⟩
      refine sound ok_M_isWhole [67] 20 ?_
      exact ⟨fun _ => ⟨Or.inr rfl, h1 ⟨g1, g2, g3, fun i i0 i1 => hI i i0 (by omega)⟩⟩, fun z => absurd z (by omega)⟩
    · rintro h x hh ⟨hh2, hI⟩ ih
      have f0 : i32 (3 * h) = 3 * h := i32_id (by omega) (by omega)
      have f1 : i32 (i32 (3 * h) + 1) = 3 * h + 1 := by rw [f0]; exact i32_id (by omega) (by omega)
      have b0 : 0 ≤ 3 * h ∧ 3 * h < 36 := by omega
      have b1 : 0 ≤ 3 * h + 1 ∧ 3 * h + 1 < 36 := by omega
      have e0 : T 4 (i32 (3 * h)) = E (3 * h) := by rw [f0]; exact hE _ (by omega) (by omega)
      have e1 : T 4 (i32 (i32 (3 * h) + 1)) = E (3 * h + 1) := by rw [f1]; exact hE _ (by omega) (by omega)
      rw [← f0] at b0
      rw [← f1] at b1
      have inner : E (3 * h) < ns → E (3 * h + 1) < ng → ∀ (k : Int) (_ : Unit), ((0 ≤ k ∧ k ≤ h) ∧ ∀ i, 0 ≤ i → i < k → ¬ (E (3 * i) = E (3 * h) ∧ E (3 * i + 1) = E (3 * h + 1))) → Smm H_M_isWhole 111 [some (.inr (.inr 0)), some (.inl h), some (.inl k)] [] T Q := by
        intro g4 g5
        refine lp_up (P := fun k _ => Smm H_M_isWhole 111 [some (.inr (.inr 0)), some (.inl h), some (.inl k)] [] T Q) _ h ?_ ?_
        · rintro k - hk ⟨hk2, hJ⟩
          refine sound ok_M_isWhole [67] 20 ?_
          refine ⟨fun _ => ?_, fun z => absurd z (by omega)⟩
          refine Smm.sub (ih (some (.inl k)) ⟨by omega, fun i i0 i1 => ?_⟩) ⟨Or.inr rfl, Or.inr (sI (i32_id (by omega) (by omega)).symm), Or.inr rfl, trivial⟩
          by_cases hi : i = h
          · rw [hi]; exact ⟨g4, g5, fun k k0 k1 => hJ k k0 (by omega)⟩
          · exact hI i i0 (by omega)
        · rintro k - hk ⟨hk2, hJ⟩ ih2
          have k0f : i32 (3 * k) = 3 * k := i32_id (by omega) (by omega)
          have k1f : i32 (i32 (3 * k) + 1) = 3 * k + 1 := by rw [k0f]; exact i32_id (by omega) (by omega)
          have kb0 : 0 ≤ 3 * k ∧ 3 * k < 36 := by omega
          have kb1 : 0 ≤ 3 * k + 1 ∧ 3 * k + 1 < 36 := by omega
          have ke0 : T 4 (i32 (3 * k)) = E (3 * k) := by rw [k0f]; exact hE _ (by omega) (by omega)
          have ke1 : T 4 (i32 (i32 (3 * k) + 1)) = E (3 * k + 1) := by rw [k1f]; exact hE _ (by omega) (by omega)
          rw [← k0f] at kb0
          rw [← k1f] at kb1
          have nx : ¬ (E (3 * k) = E (3 * h) ∧ E (3 * k + 1) = E (3 * h + 1)) → Smm H_M_isWhole 160 [some (.inr (.inr 0)), some (.inl h), some (.inl k)] [] T Q := by
            intro hz
            refine sound ok_M_isWhole [111] 20 ?_
            refine Smm.sub (ih2 () ⟨by omega, fun i i0 i1 => ?_⟩) ⟨Or.inr rfl, Or.inr rfl, Or.inr (sI (i32_id (by omega) (by omega)).symm), trivial⟩
            by_cases hi : i = k
            · rw [hi]; exact hz
            · exact hJ i i0 (by omega)
          have hkh : ¬ h ≤ k := by omega
          have hk00 : 0 ≤ k := hk2.1
          clear k0f k1f f0 f1
          refine sound ok_M_isWhole [160] 60 ?_
          refine ⟨fun z => absurd z hkh, fun _ => ?_⟩
          refine ⟨kb0, ?_⟩
          refine ⟨b0, ?_⟩
          refine ⟨fun g6 => nx (fun z => g6 (by rw [ke0, e0]; exact z.1)), fun g6 => ?_⟩
          refine ⟨kb1, ?_⟩
          refine ⟨b1, ?_⟩
          refine ⟨fun g7 => nx (fun z => g7 (by rw [ke1, e1]; exact z.2)), fun g7 => ?_⟩
          rw [ke0, e0] at g6
          rw [ke1, e1] at g7
          exact ⟨Or.inl rfl, h0 (fun z => (z.2.2.2 h hh2.1 hh).2.2 k hk00 (Int.not_le.mp hkh) ⟨g6, g7⟩)⟩
      have hh0 := hh2.1
      have hne : ¬ T 0 7 ≤ h := by rw [q7]; omega
      clear f0 f1
      refine sound ok_M_isWhole [111] 60 ?_
      refine ⟨fun z => absurd z hne, fun _ => ?_⟩
      refine ⟨b0, ?_⟩
      refine ⟨fun g4 => ⟨Or.inl rfl, h0 (fun z => ?_)⟩, fun g4 => ?_⟩
      · rw [e0, q6] at g4
        have := (z.2.2.2 h hh0 hh).1
        omega
      · rw [e0, q6] at g4
        refine ⟨b1, ?_⟩
        refine ⟨fun g5 => ?_, fun g5 => ⟨Or.inl rfl, h0 (fun z => ?_)⟩⟩
        · rw [e1, q5] at g5
          exact inner g4 g5 0 () ⟨by omega, fun i i0 i1 => absurd i1 (by omega)⟩
        · rw [e1, q5] at g5
          have := (z.2.2.2 h hh0 hh).2.1
          omega
  have sgn : 2 ≤ ng → 1 ≤ ns → ∀ (s : Int) (_ : Unit), ((0 ≤ s ∧ s ≤ ns) ∧ ∀ i, 0 ≤ i → i < s → 0 ≤ Sg (4 * i + 2) → Sg (4 * i + 3) < ng) → Smm H_M_isWhole 19 [some (.inr (.inr 0)), some (.inl s), none] [] T Q := by
    intro g1 g2
    refine lp_up (P := fun s _ => Smm H_M_isWhole 19 [some (.inr (.inr 0)), some (.inl s), none] [] T Q) _ ns ?_ ?_
    · rintro s - hs ⟨hs2, hI⟩
      refine sound ok_M_isWhole [67] 20 ?_
      exact ⟨fun _ => ears g1 g2 (fun i i0 i1 => hI i i0 (by omega)) 0 none ⟨by omega, fun i i0 i1 => absurd i1 (by omega)⟩, fun z => absurd z (by omega)⟩
    · rintro s - hs ⟨hs2, hI⟩ ih
      have f0 : i32 (4 * s) = 4 * s := i32_id (by omega) (by omega)
      have f2 : i32 (i32 (4 * s) + 2) = 4 * s + 2 := by rw [f0]; exact i32_id (by omega) (by omega)
      have f3 : i32 (i32 (4 * s) + 3) = 4 * s + 3 := by rw [f0]; exact i32_id (by omega) (by omega)
      have b2 : 0 ≤ 4 * s + 2 ∧ 4 * s + 2 < 20 := by omega
      have b3 : 0 ≤ 4 * s + 3 ∧ 4 * s + 3 < 20 := by omega
      have e2 : T 3 (i32 (i32 (4 * s) + 2)) = Sg (4 * s + 2) := by rw [f2]; exact hS _ (by omega) (by omega)
      have e3 : T 3 (i32 (i32 (4 * s) + 3)) = Sg (4 * s + 3) := by rw [f3]; exact hS _ (by omega) (by omega)
      rw [← f2] at b2
      rw [← f3] at b3
      have nx : (0 ≤ Sg (4 * s + 2) → Sg (4 * s + 3) < ng) → Smm H_M_isWhole 59 [some (.inr (.inr 0)), some (.inl s), none] [] T Q := by
        intro hz
        refine sound ok_M_isWhole [19] 20 ?_
        refine Smm.sub (ih () ⟨by omega, fun i i0 i1 => ?_⟩) ⟨Or.inr rfl, Or.inr (sI (i32_id (by omega) (by omega)).symm), Or.inr rfl, trivial⟩
        by_cases hi : i = s
        · rw [hi]; exact hz
        · exact hI i i0 (by omega)
      have hns : ¬ T 0 6 ≤ s := by rw [q6]; omega
      have hs0 := hs2.1
      clear f0 f2 f3
      refine sound ok_M_isWhole [59] 60 ?_
      refine ⟨fun z => absurd z hns, fun _ => ?_⟩
      refine ⟨b2, ?_⟩
      refine ⟨fun g3 => nx (fun z => ?_), fun g3 => ?_⟩
      · rw [e2] at g3; omega
      · rw [e2] at g3
        refine ⟨b3, ?_⟩
        refine ⟨fun g4 => nx (fun _ => by rw [e3, q5] at g4; exact g4), fun g4 => ⟨Or.inl rfl, h0 (fun z => ?_)⟩⟩
        rw [e3, q5] at g4
        have := z.2.2.1 s hs0 hs g3
        omega
  refine sound ok_M_isWhole [19] 40 ?_
  refine ⟨fun z => ⟨Or.inl rfl, h0 (fun y => ?_)⟩, fun g1 => ?_⟩
  · rw [q5] at z; omega
  · rw [q5] at g1
    refine ⟨fun g2 => ?_, fun z => ⟨Or.inl rfl, h0 (fun y => ?_)⟩⟩
    · rw [q6] at g2
      exact sgn g1 (by omega) 0 () ⟨by omega, fun i i0 i1 => absurd i1 (by omega)⟩
    · rw [q6] at z; omega
/-- the land that is read, and where it is wrong (-1: nowhere) -/
def rdP (t : Int → Int) (n : Int) : Int × PS := ldP t n (n + 1).toNat 0 p0
noncomputable def lwW (t : Int → Int) (n : Int) : Int := if (rdP t n).1 = -1 then @ite _ (whP (rdP t n).2) (Classical.propDecidable _) (-1) n else (rdP t n).1
theorem rdP_ok {t : Int → Int} {n : Int} (hn : 0 ≤ n) : okP (rdP t n).2 ∧ -1 ≤ (rdP t n).1 := ldP_ok _ 0 p0 (Int.le_refl _) hn okP_0
theorem lwW_w {t : Int → Int} {n : Int} (hn : 0 ≤ n) (h : lwW t n = -1) : (rdP t n).1 = -1 ∧ whP (rdP t n).2 := by
  unfold lwW at h
  by_cases g : (rdP t n).1 = -1
  · rw [if_pos g] at h
    by_cases w : whP (rdP t n).2
    · exact ⟨g, w⟩
    · rw [if_neg w] at h; omega
  · rw [if_neg g] at h; exact absurd h g
set_option maxHeartbeats 4000000 in
theorem t_M_wrongLand (S : St) (Q : Option AV → St → Prop) (hn : 0 ≤ S 0 2 ∧ S 0 2 ≤ 160) (htp : ∀ j, 0 ≤ j → j < S 0 2 → 1 ≤ S 1 j)
    (hQ : ∀ T, Fr [2, 3, 4] [(0, 3), (0, 4), (0, 5), (0, 6), (0, 7), (0, 8), (0, 12), (0, 13)] S T → (lwW (S 1) (S 0 2) = -1 → psM (rdP (S 1) (S 0 2)).2 T ∧ nbM (rdP (S 1) (S 0 2)).2 T) → Q (some (.inl (lwW (S 1) (S 0 2)))) T) : Smm H_M_wrongLand 0 [some (.inr (.inr 0)), none] [] S Q := by
  generalize ht : S 1 = t at hQ htp
  generalize hnn : S 0 2 = n at hQ hn htp
  -- what is answered where it is wrong
  have bad : ∀ (W : Int) (T : St), Fr [2, 3, 4] [(0, 3), (0, 4), (0, 5), (0, 6), (0, 7), (0, 8), (0, 12), (0, 13)] S T → (rdP t n).1 = W → 0 ≤ W → Q (some (.inl W)) T := by
    intro W T hF hW h0
    have hw : lwW t n = W := by unfold lwW; rw [if_neg (by omega), hW]
    have hq := hQ T hF (fun z => absurd z (by omega))
    rwa [hw] at hq
  have tail : ∀ (T : St), Fr [2, 3, 4] [(0, 3), (0, 4), (0, 5), (0, 6), (0, 7), (0, 8), (0, 12), (0, 13)] S T → (rdP t n).1 = -1 → T 0 4 = -1 → psM (rdP t n).2 T → nbM (rdP t n).2 T → Smm H_M_wrongLand 42 [some (.inr (.inr 0)), some (.inl 0)] [] T Q := by
    intro T hF hr hw hP hB
    have q2 : T 0 2 = n := by rw [hF.s 0 2 rfl, hnn]
    have hq := hQ T hF (fun _ => ⟨hP, hB⟩)
    unfold lwW at hq
    rw [if_pos hr] at hq
    refine sound ok_M_wrongLand [42] 40 ?_
    refine ⟨fun _ => ?_, fun z => absurd rfl z⟩
    refine ⟨fun _ => ?_, fun z => absurd z (by rw [hw]; decide)⟩
    refine t_M_isWhole T (rdP t n).2 _ (rdP_ok hn.1).1 hP (fun g => ?_) (fun g => ?_)
    · rw [if_pos g] at hq
      exact ⟨fun z => absurd z (by decide), fun _ => hq⟩
    · rw [if_neg g, ← q2] at hq
      exact ⟨fun _ => hq, fun z => absurd rfl z⟩
  have loop : ∀ (d : Nat) (a : Int) (p : PS) (T : St), n - a < d → (0 ≤ a ∧ a ≤ n) → okP p → Fr [2, 3, 4] [(0, 3), (0, 4), (0, 5), (0, 6), (0, 7), (0, 8), (0, 12), (0, 13)] S T → T 0 3 = a → T 0 4 = -1 → psM p T → nbM p T → ldP t n d a p = rdP t n → Smm H_M_wrongLand 42 [some (.inr (.inr 0)), some (.inl 1)] [] T Q := by
    intro d
    induction d with
    | zero => intro a p T hd ha; omega
    | succ d ih =>
      intro a p T hd ha hp hF hat hw hP hB hr
      have q1 : T 1 = t := by rw [hF.c 1 rfl, ht]
      have q2 : T 0 2 = n := by rw [hF.s 0 2 rfl, hnn]
      rw [ldP] at hr
      obtain ⟨k1, k2, k3, k4⟩ := clP_ok (t := t) ha.1 ha.2 hp
      refine sound ok_M_wrongLand [42] 100 ?_
      refine ⟨fun z => absurd z (by decide), fun _ => ?_⟩
      refine ⟨fun z => absurd z (by rw [hw]; decide), fun _ => ?_⟩
      refine t_M_readsClause T p _ hp hP hB (by omega) (by omega) hw (fun T2 hF2 hO => ?_)
      rw [q1, q2, hat] at hO
      unfold clO at hO
      generalize clP t n a p = r at hO hr k1 k2 k3 k4
      have hFS := hF.tr hF2
      have s1 : T2 1 = t := by rw [hFS.c 1 rfl, ht]
      have s2 : T2 0 2 = n := by rw [hFS.s 0 2 rfl, hnn]
      obtain ⟨o3, o | o | o⟩ := hO
      · refine ⟨fun z => absurd z (by rw [o.2]; omega), fun _ => ?_⟩
        rw [if_neg o.1] at hr
        have hq := bad r.2.1 T2 hFS (by rw [← hr]) (by omega)
        rw [← o.2] at hq
        exact hq
      · refine ⟨fun _ => ?_, fun z => absurd z (by rw [o.2.1]; decide)⟩
        rw [if_neg (by omega)] at hr
        refine t_M_sees T2 _ (by omega) (by omega) ?_
        have e1 : sk (T2 1) (T2 0 2) (T2 0 3) = r.1 := by rw [s1, s2, o3]; exact o.2.2.2.2.1
        rw [e1, s1, s2]
        refine ⟨fun _ => ?_, fun z => absurd z (by unfold ch; rw [if_pos o.2.2.1]; exact o.2.2.2.1)⟩
        refine ⟨fun _ => ?_, fun z => absurd rfl z⟩
        have e3 : up T2 0 3 r.1 0 3 = r.1 := up_s _ _ _ _
        have e2 : up T2 0 3 r.1 0 2 = n := by rw [up_n _ _ _ (by decide), s2]
        refine ⟨fun z => absurd z (by rw [e3, e2]; omega), fun _ => ?_⟩
        have fin : Smm H_M_wrongLand 42 [some (.inr (.inr 0)), some (.inl 0)] [] (up (up T2 0 3 r.1) 0 4 r.1) Q := by
          have e4 : up (up T2 0 3 r.1) 0 4 r.1 0 4 = r.1 := up_s _ _ _ _
          refine sound ok_M_wrongLand [42] 20 ?_
          refine ⟨fun _ => ?_, fun z => absurd rfl z⟩
          refine ⟨fun z => absurd z (by rw [e4]; omega), fun _ => ?_⟩
          have hq := bad r.1 (up (up T2 0 3 r.1) 0 4 r.1) ((hFS.up _ _ _ rfl).up _ _ _ rfl) (by rw [← hr]; exact o.1) (by omega)
          exact hq
        rw [show r.1 = up T2 0 3 r.1 0 3 from e3.symm] at fin
        rw [e3] at fin
        have fin2 : Smm H_M_wrongLand 42 [some (.inr (.inr 0)), some (.inl 0)] [] (up (up T2 0 3 r.1) 0 4 (up T2 0 3 r.1 0 3)) Q := by rw [e3]; exact fin
        exact fin2
      · refine ⟨fun _ => ?_, fun z => absurd z (by rw [o.2.1]; decide)⟩
        rw [if_pos o.1] at hr
        obtain ⟨m1, m2, m3⟩ := k4 o.1
        refine t_M_sees T2 _ (by omega) (by omega) ?_
        have e1 : sk (T2 1) (T2 0 2) (T2 0 3) = r.1 := by rw [s1, s2, o3]; exact m3
        rw [e1, s1, s2]
        have e3 : up T2 0 3 r.1 = T2 := by rw [← o3, up_self]
        rw [e3]
        refine ⟨fun z => ?_, fun z => ?_⟩
        · rw [if_neg z] at hr
          refine ⟨fun _ => ?_, fun z => absurd rfl z⟩
          have hlt : ¬ r.1 < n := fun y => by
            have m2' := m2.resolve_right z
            have := htp r.1 (by omega) y
            unfold ch at m2'
            rw [if_pos y] at m2'
            omega
          refine ⟨fun _ => ?_, fun y => absurd y (by rw [o3, s2]; exact hlt)⟩
          refine tail T2 hFS (by rw [← hr]) o.2.1 ?_ ?_
          · rw [← hr]; exact o.2.2.1
          · rw [← hr]; exact o.2.2.2
        · rw [if_pos z] at hr
          refine ⟨fun y => absurd y (by decide), fun _ => ?_⟩
          have hlt : r.1 < n := by
            by_cases y : r.1 < n
            · exact y
            · unfold ch at z; rw [if_neg y] at z; exact absurd z (by decide)
          have go := ih (r.1 + 1) r.2.2 (up T2 0 3 (r.1 + 1)) (by omega) (by omega) k1 (hFS.up _ _ _ rfl) (up_s _ _ _ _) (by rw [up_n _ _ _ (by decide)]; exact o.2.1) ?_ ?_ hr
          · have e5 : i32 (T2 0 3 + 1) = r.1 + 1 := by rw [o3]; exact i32_id (by omega) (by omega)
            rw [← e5] at go
            exact go
          · have := o.2.2.1
            unfold psM at this ⊢
            rw [up_o T2 _ _ (c' := 2) (by decide), up_o T2 _ _ (c' := 3) (by decide), up_o T2 _ _ (c' := 4) (by decide), up_n _ _ _ (by decide), up_n _ _ _ (by decide), up_n _ _ _ (by decide), up_n _ _ _ (by decide)]
            exact this
          · have := o.2.2.2
            unfold nbM at this ⊢
            rw [up_n _ _ _ (by decide), up_n _ _ _ (by decide)]
            exact this
  refine sound ok_M_wrongLand [42] 60 ?_
  refine loop (n + 1).toNat 0 p0 _ (by omega) (by omega) okP_0 ((((((((Fr.rf _ _ S).up _ _ _ rfl).up _ _ _ rfl).up _ _ _ rfl).up _ _ _ rfl).up _ _ _ rfl).up _ _ _ rfl).up _ _ _ rfl |>.up _ _ _ rfl) (by simp [upr]) (by simp [upr]) ⟨⟨by simp [upr]; rfl, by simp [upr]; rfl, by simp [upr]; rfl, by simp [upr]; rfl⟩, fun j j0 j1 => absurd j1 (by show ¬ j < 2 * 0; omega), fun j j0 j1 => absurd j1 (by show ¬ j < 4 * 0; omega), fun j j0 j1 => absurd j1 (by show ¬ j < 3 * 0; omega)⟩ ⟨by simp [upr]; rfl, by simp [upr]; rfl⟩ rfl
