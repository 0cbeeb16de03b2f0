/-! a clause taken into the draft -/
def twP (p : PS) : Prop := ∃ h k, 0 ≤ k ∧ k < h ∧ h < p.1.2.2.1 ∧ p.2.2.2.1 (3 * k) = p.2.2.2.1 (3 * h) ∧ p.2.2.2.1 (3 * k + 1) = p.2.2.2.1 (3 * h + 1)
def dR (p : PS) (S : St) : Prop := (S 47 0 = p.1.1 ∧ S 47 1 = p.1.2.1 ∧ S 47 2 = p.1.2.2.1 ∧ S 47 3 = p.1.2.2.2 ∧ S 47 4 = p.2.2.2.2.1 ∧ S 47 5 = p.2.2.2.2.2 ∧ S 47 7 = 0) ∧ ((S 47 6 = 0 ∧ ¬ twP p) ∨ (S 47 6 = 1 ∧ twP p)) ∧ (∀ g, 0 ≤ g → g < p.1.1 → S 48 g = p.2.1 (2 * g) ∧ S 49 g = p.2.1 (2 * g + 1)) ∧ (∀ s, 0 ≤ s → s < p.1.2.1 → S 50 s = p.2.2.1 (4 * s) ∧ S 51 s = p.2.2.1 (4 * s + 1) ∧ S 52 s = p.2.2.1 (4 * s + 2) ∧ S 53 s = p.2.2.1 (4 * s + 3)) ∧ ∀ j, 0 ≤ j → j < 20 → S 54 j = dl (ltF p.2.2.2.1 (fun _ => -1) p.1.2.2.1.toNat j)
theorem dR_fr {X : List Nat} {Y : List (Nat × Int)} {S S' : St} {p : PS} (h : dR p S) (hF : Fr X Y S S') (hX : ([47, 48, 49, 50, 51, 52, 53, 54].all (fun c => !(X.contains c || Y.any (fun q => Nat.beq q.1 c)))) = true) : dR p S' := by
  have k : ∀ c ∈ [47, 48, 49, 50, 51, 52, 53, 54], S' c = S c := fun c hc => hF.c c (by
    have := List.all_eq_true.mp hX c hc
    simpa using this)
  unfold dR
  rw [k 47 (by simp), k 48 (by simp), k 49 (by simp), k 50 (by simp), k 51 (by simp), k 52 (by simp), k 53 (by simp), k 54 (by simp)]
  exact h
theorem ltF_h {E : Int → Int} {j : Int} : ∀ h : Nat, (∀ k : Int, 0 ≤ k → k < h → 0 ≤ E (3 * k + 2) ∧ E (3 * k + 2) ≤ 9) → (ltF E (fun _ => -1) h j = -1 ∧ ∀ k : Int, 0 ≤ k → k < h → ¬ j = 5 * E (3 * k + 1) + E (3 * k)) ∨ ((0 ≤ ltF E (fun _ => -1) h j ∧ ltF E (fun _ => -1) h j ≤ 9) ∧ ∃ k : Int, 0 ≤ k ∧ k < h ∧ j = 5 * E (3 * k + 1) + E (3 * k))
  | 0, _ => Or.inl ⟨rfl, fun k k0 k1 => absurd k1 (by omega)⟩
  | h + 1, hv => by
    have ih := ltF_h (E := E) (j := j) h (fun k k0 k1 => hv k k0 (by omega))
    have hh := hv h (by omega) (by omega)
    rw [ltF]
    by_cases z : j = 5 * E (3 * h + 1) + E (3 * h)
    · rw [z, uf_s]
      exact Or.inr ⟨hh, h, by omega, by omega, rfl⟩
    · rw [uf_n _ _ z]
      rcases ih with ⟨i1, i2⟩ | ⟨i1, k, k0, k1, i2⟩
      · refine Or.inl ⟨i1, fun k k0 k1 => ?_⟩
        by_cases y : k = h
        · rw [y]; exact z
        · exact i2 k k0 (by omega)
      · exact Or.inr ⟨i1, k, k0, by omega, i2⟩
theorem dl_id {x : Int} (h : 0 ≤ x) : dl x = x := by unfold dl; rw [if_neg (by omega)]
theorem pl20 {a b : Int} (ha : 0 ≤ a ∧ a ≤ 3) (hb : 0 ≤ b ∧ b ≤ 4) : i32 (i32 (a * 5) + b) = 5 * a + b ∧ 0 ≤ 5 * a + b ∧ 5 * a + b < 20 := by
  rw [i32_id (v := a * 5) (by omega) (by omega), i32_id (by omega) (by omega)]
  omega
theorem in32' {x : Int} (h : 0 ≤ x ∧ x ≤ 100) : i32 (x + 1) = x + 1 := i32_id (by omega) (by omega)
theorem tw_take {ng ns ne nb nd br : Int} {G Sg E : Int → Int} {a b c : Int} (hne : 0 ≤ ne) (hE : ∀ h, 0 ≤ h → h < ne → (0 ≤ E (3 * h) ∧ E (3 * h) ≤ 4) ∧ (0 ≤ E (3 * h + 1) ∧ E (3 * h + 1) ≤ 3)) (ha : 0 ≤ a ∧ a ≤ 4) (hb : 0 ≤ b ∧ b ≤ 3) : twP (((ng, ns, ne + 1, nb), G, Sg, uf (uf (uf E (3 * ne) a) (3 * ne + 1) b) (3 * ne + 2) c, nd, br) : PS) ↔ (twP (((ng, ns, ne, nb), G, Sg, E, nd, br) : PS) ∨ ∃ k, 0 ≤ k ∧ k < ne ∧ 5 * b + a = 5 * E (3 * k + 1) + E (3 * k)) := by
  unfold twP
  dsimp only
  have old : ∀ k, 0 ≤ k → k < ne → uf (uf (uf E (3 * ne) a) (3 * ne + 1) b) (3 * ne + 2) c (3 * k) = E (3 * k) ∧ uf (uf (uf E (3 * ne) a) (3 * ne + 1) b) (3 * ne + 2) c (3 * k + 1) = E (3 * k + 1) := fun k k0 k1 => by
    rw [uf_n _ _ (by omega), uf_n _ _ (by omega), uf_n _ _ (by omega), uf_n _ _ (by omega), uf_n _ _ (by omega), uf_n _ _ (by omega)]
    exact ⟨rfl, rfl⟩
  have new : uf (uf (uf E (3 * ne) a) (3 * ne + 1) b) (3 * ne + 2) c (3 * ne) = a ∧ uf (uf (uf E (3 * ne) a) (3 * ne + 1) b) (3 * ne + 2) c (3 * ne + 1) = b := by
    rw [uf_n _ _ (by omega), uf_n _ _ (by omega), uf_s, uf_n _ _ (by omega), uf_s]
    exact ⟨rfl, rfl⟩
  constructor
  · rintro ⟨h, k, k0, k1, k2, e1, e2⟩
    have ok := old k k0 (by omega)
    rw [ok.1] at e1
    rw [ok.2] at e2
    by_cases z : h = ne
    · rw [z] at e1 e2
      rw [new.1] at e1
      rw [new.2] at e2
      exact Or.inr ⟨k, k0, by omega, by omega⟩
    · have oh := old h (by omega) (by omega)
      rw [oh.1] at e1
      rw [oh.2] at e2
      exact Or.inl ⟨h, k, k0, k1, by omega, e1, e2⟩
  · rintro (⟨h, k, k0, k1, k2, e1, e2⟩ | ⟨k, k0, k1, e⟩)
    · have ok := old k k0 (by omega)
      have oh := old h (by omega) k2
      refine ⟨h, k, k0, k1, by omega, ?_, ?_⟩
      · rw [ok.1, oh.1]; exact e1
      · rw [ok.2, oh.2]; exact e2
    · have ok := old k k0 k1
      have hb := hE k k0 k1
      refine ⟨ne, k, k0, k1, by omega, ?_, ?_⟩
      · rw [ok.1, new.1]; omega
      · rw [ok.2, new.2]; omega
theorem ior01 {a b : Int} (ha : a = 0 ∨ a = 1) (hb : b = 0 ∨ b = 1) : (ior a b = 0 ∧ a = 0 ∧ b = 0) ∨ (ior a b = 1 ∧ (a = 1 ∨ b = 1)) := by
  rcases ha with rfl | rfl <;> rcases hb with rfl | rfl <;> decide
theorem uf2_at (G : Int → Int) (n x y g : Int) : uf (uf G (2 * n) x) (2 * n + 1) y (2 * g) = (if g = n then x else G (2 * g)) ∧ uf (uf G (2 * n) x) (2 * n + 1) y (2 * g + 1) = (if g = n then y else G (2 * g + 1)) := by
  by_cases z : g = n
  · rw [if_pos z, if_pos z, z, uf_n _ _ (by omega), uf_s, uf_s]
    exact ⟨rfl, rfl⟩
  · rw [if_neg z, if_neg z, uf_n _ _ (by omega), uf_n _ _ (by omega), uf_n _ _ (by omega), uf_n _ _ (by omega)]
    exact ⟨rfl, rfl⟩
theorem uf4_at (G : Int → Int) (n a b c d g : Int) : uf (uf (uf (uf G (4 * n) a) (4 * n + 1) b) (4 * n + 2) c) (4 * n + 3) d (4 * g) = (if g = n then a else G (4 * g)) ∧ uf (uf (uf (uf G (4 * n) a) (4 * n + 1) b) (4 * n + 2) c) (4 * n + 3) d (4 * g + 1) = (if g = n then b else G (4 * g + 1)) ∧ uf (uf (uf (uf G (4 * n) a) (4 * n + 1) b) (4 * n + 2) c) (4 * n + 3) d (4 * g + 2) = (if g = n then c else G (4 * g + 2)) ∧ uf (uf (uf (uf G (4 * n) a) (4 * n + 1) b) (4 * n + 2) c) (4 * n + 3) d (4 * g + 3) = (if g = n then d else G (4 * g + 3)) := by
  by_cases z : g = n
  · rw [if_pos z, if_pos z, if_pos z, if_pos z, z]
    refine ⟨?_, ?_, ?_, ?_⟩
    · rw [uf_n _ _ (by omega), uf_n _ _ (by omega), uf_n _ _ (by omega), uf_s]
    · rw [uf_n _ _ (by omega), uf_n _ _ (by omega), uf_s]
    · rw [uf_n _ _ (by omega), uf_s]
    · rw [uf_s]
  · rw [if_neg z, if_neg z, if_neg z, if_neg z]
    refine ⟨?_, ?_, ?_, ?_⟩
    · rw [uf_n _ _ (by omega), uf_n _ _ (by omega), uf_n _ _ (by omega), uf_n _ _ (by omega)]
    · rw [uf_n _ _ (by omega), uf_n _ _ (by omega), uf_n _ _ (by omega), uf_n _ _ (by omega)]
    · rw [uf_n _ _ (by omega), uf_n _ _ (by omega), uf_n _ _ (by omega), uf_n _ _ (by omega)]
    · rw [uf_n _ _ (by omega), uf_n _ _ (by omega), uf_n _ _ (by omega), uf_n _ _ (by omega)]
set_option maxHeartbeats 4000000 in
theorem t_ldTake (S : St) (p : PS) (k : Int) (v : Int → Int) (Q : Option AV → St → Prop) (hk : 0 ≤ k ∧ k ≤ 3) (h : dR p S) (hp : okP p) (hv : vOk k p.1.2.1 v) (hc : ctK k p < mxK k) (hS : ∀ i, 0 ≤ i → i < 4 → S 46 i = v i) (hQ : ∀ S', Fr [48, 49, 50, 51, 52, 53, 54] [(47, 0), (47, 1), (47, 2), (47, 3), (47, 4), (47, 5), (47, 6)] S S' → dR (takeP k v p) S' → Q none S') : Smm H_Land_take 0 [some (.inr (.inr 47)), some (.inl k), some (.inr (.inr 46)), none] [] S Q := by
  obtain ⟨⟨ng, ns, ne, nb⟩, G, Sg, E, nd, br⟩ := p
  obtain ⟨⟨c1, c2, c3, c4, c5, c6, c7, c8, c9⟩, hG, hSg, hE, hN⟩ := hp
  obtain ⟨⟨d0, d1, d2, d3, d4, d5, d7⟩, d6, dg, ds, dd⟩ := h
  dsimp only at *
  have s0 := hS 0 (by omega) (by omega)
  have s1 := hS 1 (by omega) (by omega)
  have s2 := hS 2 (by omega) (by omega)
  have s3 := hS 3 (by omega) (by omega)
  have hnf : ¬ mxK k ≤ ctD S k := by
    unfold ctD
    unfold ctK at hc
    rw [d0, d1, d2, d3]
    dsimp only at hc
    omega
  refine sound ok_Land_take [152] 100 ?_
  refine t_isFull S k _ hk (fun z => absurd z hnf) (fun _ => ?_)
  refine ⟨fun _ => ?_, fun z => absurd rfl z⟩
  rcases k4 hk.1 hk.2 with rfl | rfl | rfl | rfl
  · have hng : ng < 4 := hc
    have hix : 0 ≤ S 47 0 ∧ S 47 0 < 4 := by rw [d0]; omega
    refine ⟨fun z => absurd rfl z, fun _ => ?_⟩
    refine ⟨by decide, ?_⟩
    refine ⟨hix, ?_⟩
    refine ⟨by decide, ?_⟩
    refine ⟨hix, ?_⟩
    have e := in32' (x := S 47 0) (by omega)
    have hF : Fr [48, 49, 50, 51, 52, 53, 54] [(47, 0), (47, 1), (47, 2), (47, 3), (47, 4), (47, 5), (47, 6)] S (up (up (up S 48 (S 47 0) (S 46 0)) 49 (S 47 0) (S 46 1)) 47 0 (i32 (S 47 0 + 1))) := (((Fr.rf _ _ _).up _ _ _ rfl).up _ _ _ rfl).up _ _ _ rfl
    have hF2 : Fr [48, 49] [(47, 0)] S (up (up (up S 48 (S 47 0) (S 46 0)) 49 (S 47 0) (S 46 1)) 47 0 (i32 (S 47 0 + 1))) := (((Fr.rf _ _ _).up _ _ _ rfl).up _ _ _ rfl).up _ _ _ rfl
    refine hQ (up (up (up S 48 (S 47 0) (S 46 0)) 49 (S 47 0) (S 46 1)) 47 0 (i32 (S 47 0 + 1))) hF ⟨⟨?_, ?_, ?_, ?_, ?_, ?_, ?_⟩, ?_, fun g g0 g1 => ?_, fun s a0 a1 => ?_, fun j j0 j1 => ?_⟩
    · rw [up_s, e, d0]; rfl
    · rw [hF2.s 47 1 rfl]; exact d1
    · rw [hF2.s 47 2 rfl]; exact d2
    · rw [hF2.s 47 3 rfl]; exact d3
    · rw [hF2.s 47 4 rfl]; exact d4
    · rw [hF2.s 47 5 rfl]; exact d5
    · rw [hF2.s 47 7 rfl]; exact d7
    · rw [hF2.s 47 6 rfl]; exact d6
    · have g1' : g < ng + 1 := g1
      show _ = uf (uf G (2 * ng) (v 0)) (2 * ng + 1) (v 1) (2 * g) ∧ _ = uf (uf G (2 * ng) (v 0)) (2 * ng + 1) (v 1) (2 * g + 1)
      clear e
      obtain ⟨u1, u2⟩ := uf2_at G ng (v 0) (v 1) g
      rw [u1, u2, d0]
      by_cases z : g = ng
      · rw [if_pos z, if_pos z, z, ← s0, ← s1]
        simp [upr]
      · have := dg g g0 (by omega)
        rw [if_neg z, if_neg z]
        simp only [upr, z, and_false, if_false]
        exact this
    · rw [hF2.c 50 rfl, hF2.c 51 rfl, hF2.c 52 rfl, hF2.c 53 rfl]; exact ds s a0 a1
    · rw [hF2.c 54 rfl]; exact dd j j0 j1
  · have hns : ns < 5 := hc
    have hix : 0 ≤ S 47 1 ∧ S 47 1 < 5 := by rw [d1]; omega
    refine ⟨fun _ => ?_, fun z => absurd z (by decide)⟩
    refine ⟨fun z => absurd rfl z, fun _ => ?_⟩
    refine ⟨by decide, ?_⟩
    refine ⟨hix, ?_⟩
    refine ⟨by decide, ?_⟩
    refine ⟨hix, ?_⟩
    refine ⟨by decide, ?_⟩
    refine ⟨hix, ?_⟩
    refine ⟨by decide, ?_⟩
    refine ⟨hix, ?_⟩
    have e := in32' (x := S 47 1) (by omega)
    have hF2 : Fr [50, 51, 52, 53] [(47, 1)] S (up (up (up (up (up S 50 (S 47 1) (S 46 0)) 51 (S 47 1) (S 46 1)) 52 (S 47 1) (S 46 2)) 53 (S 47 1) (S 46 3)) 47 1 (i32 (S 47 1 + 1))) := (((((Fr.rf _ _ _).up _ _ _ rfl).up _ _ _ rfl).up _ _ _ rfl).up _ _ _ rfl).up _ _ _ rfl
    refine hQ (up (up (up (up (up S 50 (S 47 1) (S 46 0)) 51 (S 47 1) (S 46 1)) 52 (S 47 1) (S 46 2)) 53 (S 47 1) (S 46 3)) 47 1 (i32 (S 47 1 + 1))) (hF2.mo rfl rfl) ⟨⟨?_, ?_, ?_, ?_, ?_, ?_, ?_⟩, ?_, fun g g0 g1 => ?_, fun s a0 a1 => ?_, fun j j0 j1 => ?_⟩
    · rw [hF2.s 47 0 rfl]; exact d0
    · rw [up_s, e, d1]; rfl
    · rw [hF2.s 47 2 rfl]; exact d2
    · rw [hF2.s 47 3 rfl]; exact d3
    · rw [hF2.s 47 4 rfl]; exact d4
    · rw [hF2.s 47 5 rfl]; exact d5
    · rw [hF2.s 47 7 rfl]; exact d7
    · rw [hF2.s 47 6 rfl]; exact d6
    · rw [hF2.c 48 rfl, hF2.c 49 rfl]; exact dg g g0 g1
    · have a1' : s < ns + 1 := a1
      show _ = uf (uf (uf (uf Sg (4 * ns) (v 0)) (4 * ns + 1) (v 1)) (4 * ns + 2) (v 2)) (4 * ns + 3) (v 3) (4 * s) ∧ _ = uf (uf (uf (uf Sg (4 * ns) (v 0)) (4 * ns + 1) (v 1)) (4 * ns + 2) (v 2)) (4 * ns + 3) (v 3) (4 * s + 1) ∧ _ = uf (uf (uf (uf Sg (4 * ns) (v 0)) (4 * ns + 1) (v 1)) (4 * ns + 2) (v 2)) (4 * ns + 3) (v 3) (4 * s + 2) ∧ _ = uf (uf (uf (uf Sg (4 * ns) (v 0)) (4 * ns + 1) (v 1)) (4 * ns + 2) (v 2)) (4 * ns + 3) (v 3) (4 * s + 3)
      clear e
      obtain ⟨u1, u2, u3, u4⟩ := uf4_at Sg ns (v 0) (v 1) (v 2) (v 3) s
      rw [u1, u2, u3, u4, d1]
      by_cases z : s = ns
      · rw [if_pos z, if_pos z, if_pos z, if_pos z, z, ← s0, ← s1, ← s2, ← s3]
        simp [upr]
      · have := ds s a0 (by omega)
        rw [if_neg z, if_neg z, if_neg z, if_neg z]
        simp only [upr, z, and_false, if_false]
        exact this
    · rw [hF2.c 54 rfl]; exact dd j j0 j1
  · have hne : ne < 12 := hc
    obtain ⟨v0a, v0b, v1a, v1b, v2a, v2b⟩ : 0 ≤ v 0 ∧ v 0 ≤ 4 ∧ 0 ≤ v 1 ∧ v 1 ≤ 3 ∧ 0 ≤ v 2 ∧ v 2 ≤ 9 := hv
    obtain ⟨x1, x2⟩ := pl20 (a := v 1) (b := v 0) (by omega) (by omega)
    have hlt := ltF_h (E := E) (j := 5 * v 1 + v 0) ne.toNat (fun k k0 k1 => (hE k k0 (by clear x1; omega)).2.2)
    have hdp := dd (5 * v 1 + v 0) x2.1 x2.2
    have htw := tw_take (ng := ng) (ns := ns) (nb := nb) (nd := nd) (br := br) (G := G) (Sg := Sg) (E := E) (a := v 0) (b := v 1) (c := v 2) c5 (fun h h0 h1 => ⟨(hE h h0 h1).1, (hE h h0 h1).2.1⟩) (by clear x1; omega) (by clear x1; omega)
    have e := in32' (x := S 47 2) (by clear x1; omega)
    have t6 : S 47 6 = 0 ∨ S 47 6 = 1 := by rcases d6 with q | q; exact Or.inl q.1; exact Or.inr q.1
    have fin : ∀ b : Int, ((b = 0 ∧ S 54 (5 * v 1 + v 0) = 2000000) ∨ (b = 1 ∧ ¬ S 54 (5 * v 1 + v 0) = 2000000)) → Smm H_Land_take 152 [some (.inr (.inr 47)), some (.inl 2), some (.inr (.inr 46)), some (.inl (i32 (i32 (S 46 1 * 5) + S 46 0)))] [.inl b, .inl (S 47 6), .inr (.inr 47)] S Q := by
      intro b hb
      have hb01 : b = 0 ∨ b = 1 := by rcases hb with q | q; exact Or.inl q.1; exact Or.inr q.1
      have hior := ior01 t6 hb01
      have hb2 : b = 1 ↔ ∃ k, 0 ≤ k ∧ k < ne ∧ 5 * v 1 + v 0 = 5 * E (3 * k + 1) + E (3 * k) := by
        clear x1 e
        rw [hdp] at hb
        rcases hlt with ⟨l1, l2⟩ | ⟨l1, k, k0, k1, l2⟩
        · rw [l1] at hb
          have : dl (-1) = 2000000 := rfl
          rw [this] at hb
          constructor
          · intro q; omega
          · rintro ⟨k, k0, k1, q⟩; exact absurd q (l2 k k0 (by omega))
        · rw [dl_id l1.1] at hb
          constructor
          · intro _; exact ⟨k, k0, by omega, l2⟩
          · intro _; omega
      refine sound ok_Land_take [] 60 ?_
      refine ⟨by rcases hior with q | q; exact Or.inl q.1; exact Or.inr q.1, ?_⟩
      refine ⟨by decide, ?_⟩
      refine ⟨by rw [s0, s1, x1]; exact x2, ?_⟩
      have hF2 : Fr [54] [(47, 2), (47, 6)] S (up (up (up S 47 6 (ior (S 47 6) b)) 54 (i32 (i32 (S 46 1 * 5) + S 46 0)) (S 46 2)) 47 2 (i32 (S 47 2 + 1))) := (((Fr.rf _ _ _).up _ _ _ rfl).up _ _ _ rfl).up _ _ _ rfl
      refine hQ (up (up (up S 47 6 (ior (S 47 6) b)) 54 (i32 (i32 (S 46 1 * 5) + S 46 0)) (S 46 2)) 47 2 (i32 (S 47 2 + 1))) (hF2.mo rfl rfl) ⟨⟨?_, ?_, ?_, ?_, ?_, ?_, ?_⟩, ?_, fun g g0 g1 => ?_, fun s a0 a1 => ?_, fun j j0 j1 => ?_⟩
      · rw [hF2.s 47 0 rfl]; exact d0
      · rw [hF2.s 47 1 rfl]; exact d1
      · rw [up_s, e, d2]; rfl
      · rw [hF2.s 47 3 rfl]; exact d3
      · rw [hF2.s 47 4 rfl]; exact d4
      · rw [hF2.s 47 5 rfl]; exact d5
      · rw [hF2.s 47 7 rfl]; exact d7
      · have e6 : up (up (up S 47 6 (ior (S 47 6) b)) 54 (i32 (i32 (S 46 1 * 5) + S 46 0)) (S 46 2)) 47 2 (i32 (S 47 2 + 1)) 47 6 = ior (S 47 6) b := by
          rw [up_n _ _ _ (by decide), up_o _ _ _ (by decide), up_s]
        rw [e6]
        show (_ ∧ ¬ twP (((ng, ns, ne + 1, nb), G, Sg, uf (uf (uf E (3 * ne) (v 0)) (3 * ne + 1) (v 1)) (3 * ne + 2) (v 2), nd, br) : PS)) ∨ (_ ∧ twP (((ng, ns, ne + 1, nb), G, Sg, uf (uf (uf E (3 * ne) (v 0)) (3 * ne + 1) (v 1)) (3 * ne + 2) (v 2), nd, br) : PS))
        rw [htw, ← hb2]
        clear x1 e e6
        rcases d6 with ⟨q1, q2⟩ | ⟨q1, q2⟩
        · rcases hior with ⟨r1, r2, r3⟩ | ⟨r1, r2⟩
          · exact Or.inl ⟨r1, fun q => q.elim q2 (fun q => by omega)⟩
          · exact Or.inr ⟨r1, Or.inr (by omega)⟩
        · rcases hior with ⟨r1, r2, r3⟩ | ⟨r1, r2⟩
          · exact absurd (q1.symm.trans r2) (by decide)
          · exact Or.inr ⟨r1, Or.inl q2⟩
      · rw [hF2.c 48 rfl, hF2.c 49 rfl]; exact dg g g0 g1
      · rw [hF2.c 50 rfl, hF2.c 51 rfl, hF2.c 52 rfl, hF2.c 53 rfl]; exact ds s a0 a1
      · show _ = dl (ltF (uf (uf (uf E (3 * ne) (v 0)) (3 * ne + 1) (v 1)) (3 * ne + 2) (v 2)) (fun _ => -1) (ne + 1).toNat j)
        rw [up_o _ _ _ (by decide), s0, s1, x1, s2]
        clear x1 e
        obtain ⟨m, rfl⟩ : ∃ m : Nat, ne = m := ⟨ne.toNat, by omega⟩
        rw [show ((m : Int) + 1).toNat = m + 1 by omega, ltF, ltF_congr (E' := E) m (fun i i0 i1 => by rw [uf_n _ _ (by omega), uf_n _ _ (by omega), uf_n _ _ (by omega)])]
        have n1 : uf (uf (uf E (3 * (m : Int)) (v 0)) (3 * (m : Int) + 1) (v 1)) (3 * (m : Int) + 2) (v 2) (3 * (m : Int) + 1) = v 1 := by rw [uf_n _ _ (by omega), uf_s]
        have n0 : uf (uf (uf E (3 * (m : Int)) (v 0)) (3 * (m : Int) + 1) (v 1)) (3 * (m : Int) + 2) (v 2) (3 * (m : Int)) = v 0 := by rw [uf_n _ _ (by omega), uf_n _ _ (by omega), uf_s]
        have n2 : uf (uf (uf E (3 * (m : Int)) (v 0)) (3 * (m : Int) + 1) (v 1)) (3 * (m : Int) + 2) (v 2) (3 * (m : Int) + 2) = v 2 := uf_s _ _ _
        rw [n0, n1, n2]
        by_cases z : j = 5 * v 1 + v 0
        · rw [z, up_s, uf_s, dl_id v2a]
        · rw [up_n _ _ _ z, uf_n _ _ z, up_o _ _ _ (by decide)]
          exact dd j j0 j1
    refine ⟨fun _ => ?_, fun z => absurd z (by decide)⟩
    refine ⟨fun _ => ?_, fun z => absurd z (by decide)⟩
    refine ⟨fun z => absurd rfl z, fun _ => ?_⟩
    refine ⟨by decide, ?_⟩
    refine ⟨by decide, ?_⟩
    refine ⟨by rw [s0, s1, x1]; exact x2, ?_⟩
    have est : i32 (i32 (S 46 1 * 5) + S 46 0) = 5 * v 1 + v 0 := by rw [s0, s1]; exact x1
    refine ⟨fun z => ?_, fun z => ?_⟩
    · rw [est] at z
      have := fin 0 (Or.inl ⟨rfl, z⟩)
      exact this
    · rw [est] at z
      have := fin 1 (Or.inr ⟨rfl, z⟩)
      exact this
  · have hnb : nb < 1 := hc
    refine ⟨fun _ => ?_, fun z => absurd z (by decide)⟩
    refine ⟨fun _ => ?_, fun z => absurd z (by decide)⟩
    refine ⟨fun _ => ?_, fun z => absurd z (by decide)⟩
    refine ⟨by decide, ?_⟩
    refine ⟨by decide, ?_⟩
    have e := in32' (x := S 47 3) (by omega)
    have hF2 : Fr [] [(47, 3), (47, 4), (47, 5)] S (up (up (up S 47 4 (S 46 0)) 47 5 (S 46 1)) 47 3 (i32 (S 47 3 + 1))) := (((Fr.rf _ _ _).up _ _ _ rfl).up _ _ _ rfl).up _ _ _ rfl
    refine hQ (up (up (up S 47 4 (S 46 0)) 47 5 (S 46 1)) 47 3 (i32 (S 47 3 + 1))) (hF2.mo rfl rfl) ⟨⟨?_, ?_, ?_, ?_, ?_, ?_, ?_⟩, ?_, fun g g0 g1 => ?_, fun s a0 a1 => ?_, fun j j0 j1 => ?_⟩
    · rw [hF2.s 47 0 rfl]; exact d0
    · rw [hF2.s 47 1 rfl]; exact d1
    · rw [hF2.s 47 2 rfl]; exact d2
    · rw [up_s, e, d3]; rfl
    · rw [up_n _ _ _ (by decide), up_n _ _ _ (by decide), up_s, s0]; rfl
    · rw [up_n _ _ _ (by decide), up_s, s1]; rfl
    · rw [hF2.s 47 7 rfl]; exact d7
    · rw [hF2.s 47 6 rfl]; exact d6
    · rw [hF2.c 48 rfl, hF2.c 49 rfl]; exact dg g g0 g1
    · rw [hF2.c 50 rfl, hF2.c 51 rfl, hF2.c 52 rfl, hF2.c 53 rfl]; exact ds s a0 a1
    · rw [hF2.c 54 rfl]; exact dd j j0 j1
