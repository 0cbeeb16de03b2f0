/-! plans of the class: when a guard turns -/
theorem dropS {l : List Int} {k : Nat} (hk : k < l.length) : l.drop (l.length - (k + 1)) = l.getD (l.length - 1 - k) 0 :: l.drop (l.length - k) := by
  have h : l.length - (k + 1) < l.length := by omega
  rw [List.drop_eq_getElem_cons h, List.getD_eq_getElem?_getD]
  have h2 : l.length - 1 - k = l.length - (k + 1) := by omega
  rw [h2, List.getElem?_eq_getElem h]
  simp only [Option.getD_some]
  rw [show l.length - (k + 1) + 1 = l.length - k by omega]
theorem wfX_drop : ∀ (k : Nat) (xs : List Int), wfX xs → wfX (xs.drop k)
  | 0, xs, h => h
  | k + 1, [], h => h
  | k + 1, c :: xs, h => by rw [List.drop_succ_cons]; exact wfX_drop k xs h.1
theorem ishr7 {c : Int} (h : 0 ≤ c) (h2 : c < 1000) : ishr c 7 = c / 128 := by
  obtain ⟨x, rfl⟩ : ∃ x : Nat, c = x := ⟨c.toNat, by omega⟩
  have := ishr_nat (a := x) (k := 7) (by omega) (by omega)
  rw [show ((7 : Nat) : Int) = 7 from rfl] at this
  rw [this]
  rw [show (2 : Nat) ^ 7 = 128 from rfl]
  omega
theorem iand127 {c : Int} (h : 0 ≤ c) (h2 : c < 1000) : iand c 127 = c % 128 := by
  obtain ⟨x, rfl⟩ : ∃ x : Nat, c = x := ⟨c.toNat, by omega⟩
  have := iand_nat (a := x) (b := 127) (by omega) (by omega)
  rw [show ((127 : Nat) : Int) = 127 from rfl] at this
  rw [this]
  have h3 := Nat.and_two_pow_sub_one_eq_mod x 7
  rw [show (2 : Nat) ^ 7 - 1 = 127 from rfl, show (2 : Nat) ^ 7 = 128 from rfl] at h3
  rw [h3]
  omega
/-- the levels stand in their rows -/
def lvA (S : St) (X : List (Int × Int)) : Prop := plA (S 61) (X.map (fun q => q.1)) ∧ plA (S 62) (X.map (fun q => q.2))
theorem lvA_top {S : St} {q : Int × Int} {X : List (Int × Int)} (h : lvA S (q :: X)) : S 61 X.length = q.1 ∧ S 62 X.length = q.2 ∧ lvA S X := by
  have h1 := plA_pop (x := q.1) (l := X.map (fun q => q.1)) h.1
  have h2 := plA_pop (x := q.2) (l := X.map (fun q => q.2)) h.2
  rw [List.length_map] at h1 h2
  exact ⟨h1.2, h2.2, h1.1, h2.1⟩
theorem lvA_push {S S' : St} {X : List (Int × Int)} (e l : Int) (h : lvA S X) (h1 : S' 61 = uf (S 61) X.length e) (h2 : S' 62 = uf (S 62) X.length l) : lvA S' ((e, l) :: X) := by
  have k1 := plA_push h.1 e
  have k2 := plA_push h.2 l
  rw [List.length_map] at k1 k2
  exact ⟨by rw [h1]; exact k1, by rw [h2]; exact k2⟩
theorem wfX_lv : ∀ xs, wfX xs → lvL xs ≤ 7
  | [], _ => by decide
  | c :: xs, h => by
    have ih := wfX_lv xs h.1
    rw [lvL]
    by_cases z : c = -1
    · rw [if_pos z]; have := h.2.2.1 z; omega
    · rw [if_neg z]; split <;> omega
theorem t_openLevel (S : St) (j : Int) (Q : Option AV → St → Prop) (hj : 0 ≤ j ∧ j < 7) (hQ : Q none (up (up S 61 j 1000000) 62 j (-1000000))) : Smm H_Plans_openLevel 0 [some (.inr (.inr 57)), some (.inl j)] [] S Q := by
  refine sound ok_Plans_openLevel [] 20 ?_
  exact ⟨hj, hj, hQ⟩
theorem uf_self (f : Int → Int) (i : Int) : uf f i (f i) = f := by
  funext j
  unfold uf
  split
  · rename_i h; rw [h]
  · rfl
theorem px32 {h v : Int} (hh : -5000 ≤ h ∧ h ≤ 4000000) (hv : 0 ≤ v ∧ v ≤ 127) : i32 (i32 h + v) = h + v := by
  rw [i32_id (v := h) (by omega) (by omega)]; exact i32_id (by omega) (by omega)
theorem p160 {p k : Int} (hp : 0 ≤ p ∧ p < 8) (hk : 0 ≤ k ∧ k ≤ 160) : i32 (i32 (p * 160) + k) = 160 * p + k ∧ i32 (p * 160) = 160 * p ∧ i32 (160 * p + k) = 160 * p + k := by
  rw [i32_id (v := p * 160) (by omega) (by omega)]
  refine ⟨?_, by omega, i32_id (by omega) (by omega)⟩
  rw [i32_id (by omega) (by omega)]; omega
set_option maxHeartbeats 4000000 in
theorem t_turnOf_l (S : St) (p g : Int) (xc : List Int) (Q : Option AV → St → Prop) (hp : 0 ≤ p ∧ p < S 57 3 ∧ S 57 3 ≤ 8) (hg : 0 ≤ g ∧ g < 4) (hsz : S 59 p = xc.length) (hxl : xc.length ≤ 160) (hcd : ∀ k : Nat, k < xc.length → S 58 (160 * p + k) = xc.getD (xc.length - 1 - k) 0) (hwf : wfX xc)
    (hh : ∀ s, 0 ≤ s → s < 5 → -5000 ≤ S 100 s + S 70 (5 * g + s) ∧ S 100 s + S 70 (5 * g + s) ≤ 4000000)
    (hQ : ∀ S' e l, Fr [61, 62] [] S S' → (∃ r, pkX (fun s => S 100 s + S 70 (5 * g + s)) xc = r ++ [(e, l)]) → (lvL xc = 1 → pkX (fun s => S 100 s + S 70 (5 * g + s)) xc = [(e, l)]) → Q (some (.inl (min e l))) S') : Smm H_Plans_turnOf 0 [some (.inr (.inr 57)), some (.inl p), some (.inr (.inr 100)), some (.inr (.inr 70)), some (.inl (5 * g)), none, none, none, none, none, none] [] S Q := by
  generalize hH : (fun s => S 100 s + S 70 (5 * g + s)) = h at hQ
  have hhv : ∀ s, S 100 s + S 70 (5 * g + s) = h s := fun s => by rw [← hH]
  have loop : ∀ (d k : Nat) (T : St) (x8 x9 x10 : Option AV), k + d = xc.length → Fr [61, 62] [] S T → lvA T (pkX h (xc.drop (xc.length - k))) → Smm H_Plans_turnOf 34 [some (.inr (.inr 57)), some (.inl p), some (.inr (.inr 100)), some (.inr (.inr 70)), some (.inl (5 * g)), some (.inl ((pkX h (xc.drop (xc.length - k))).length - 1 : Int)), some (.inl (160 * p)), some (.inl (160 * p + k)), x8, x9, x10] [] T Q := by
    intro d
    induction d with
    | zero =>
      intro k T x8 x9 x10 hk hF hL
      have ez : T 59 p = xc.length := by rw [hF.c 59 rfl, hsz]
      have b8 : 0 ≤ p ∧ p < 8 := by omega
      have b0 : (0 : Int) ≤ 0 ∧ (0 : Int) < 7 := by decide
      rw [show xc.length - k = 0 by omega, List.drop_zero] at hL ⊢
      have hk2 : k = xc.length := by omega
      obtain ⟨hxx, hx1⟩ := pkX_len h xc hwf
      obtain ⟨r, q, hr⟩ : ∃ r q, pkX h xc = r ++ [q] := by
        rcases List.eq_nil_or_concat (pkX h xc) with z | ⟨r, q, z⟩
        · rw [z] at hxx; simp at hxx; omega
        · exact ⟨r, q, by rw [z, List.concat_eq_append]⟩
      have v1 : T 61 0 = q.1 := by
        have := hL.1 0 (by rw [hr]; simp)
        rw [hr] at this
        simpa using this
      have v2 : T 62 0 = q.2 := by
        have := hL.2 0 (by rw [hr]; simp)
        rw [hr] at this
        simpa using this
      have hq := hQ T q.1 q.2 hF ⟨r, hr⟩ (fun z => by
        rw [z, hr] at hxx
        have : r = [] := by
          cases r with
          | nil => rfl
          | cons a b => simp at hxx
        rw [hr, this]; rfl)
      rw [← v1, ← v2] at hq
      have e1 : i32 (160 * p + T 59 p) = 160 * p + k := by rw [ez, hk2]; exact (p160 (k := xc.length) b8 (by omega)).2.2
      refine sound ok_Plans_turnOf [34] 60 ?_
      refine ⟨b8, ?_⟩
      refine ⟨fun _ => ?_, fun z => absurd z (by rw [e1]; exact Int.lt_irrefl _)⟩
      refine ⟨b0, ?_⟩
      refine ⟨b0, ?_⟩
      exact hq
    | succ d ih =>
      intro k T x8 x9 x10 hk hF hL
      have hkl : k < xc.length := by omega
      have ez : T 59 p = xc.length := by rw [hF.c 59 rfl, hsz]
      have b8 : 0 ≤ p ∧ p < 8 := by omega
      have ec : T 58 (160 * p + k) = xc.getD (xc.length - 1 - k) 0 := by rw [hF.c 58 rfl]; exact hcd k hkl
      have bk : 0 ≤ 160 * p + (k : Int) ∧ 160 * p + (k : Int) < 1280 := by omega
      have hlt : ¬ 160 * p + (xc.length : Int) ≤ 160 * p + k := by omega
      have hdr := dropS hkl
      have hwd := wfX_drop (xc.length - (k + 1)) xc hwf
      have ih := ih (k + 1)
      rw [hdr] at ih hwd
      generalize xc.getD (xc.length - 1 - k) 0 = c at *
      obtain ⟨hxx, hx1⟩ := pkX_len h _ hwd.1
      have hlv := hwd.2.2
      rw [← hxx] at hlv
      generalize hXs : xc.drop (xc.length - k) = xs at *
      have hpk : pkX h (c :: xs) = stX h c (pkX h xs) := rfl
      rw [hpk] at ih
      match hX : pkX h xs, hxx, hL with
      | [], hxx, hL => simp at hxx; omega
      | q :: r, hxx, hL =>
        rw [hX] at ih hlv
        obtain ⟨t1, t2, t3⟩ := lvA_top hL
        rw [List.length_cons] at hlv hxx ⊢
        have hlev : ((r.length + 1 : Nat) : Int) - 1 = (r.length : Int) := by omega
        rw [hlev]
        have hkd : k + 1 + d = xc.length := by omega
        have e1 : i32 (160 * p + T 59 p) = 160 * p + xc.length := by rw [ez]; exact (p160 (k := xc.length) b8 (by omega)).2.2
        have e2 : 160 * p + ((k + 1 : Nat) : Int) = i32 (160 * p + (k : Int) + 1) := by
          rw [show 160 * p + (k : Int) + 1 = 160 * p + ((k + 1 : Nat) : Int) by omega]
          exact (p160 (k := ((k + 1 : Nat) : Int)) b8 (by omega)).2.2.symm
        have hlv7 := wfX_lv xs hwd.1
        have br : 0 ≤ (r.length : Int) ∧ (r.length : Int) < 7 := by omega
        clear ez hdr
        have next : ∀ (T2 : St) (v : Int) (y8 y9 y10 : Option AV), Fr [61, 62] [] S T2 → lvA T2 (stX h c (q :: r)) → v = ((stX h c (q :: r)).length : Int) - 1 → Smm H_Plans_turnOf 232 [some (.inr (.inr 57)), some (.inl p), some (.inr (.inr 100)), some (.inr (.inr 70)), some (.inl (5 * g)), some (.inl v), some (.inl (160 * p)), some (.inl (160 * p + k)), y8, y9, y10] [] T2 Q := by
          intro T2 v y8 y9 y10 hF2 hL2 hv
          refine sound ok_Plans_turnOf [34] 20 ?_
          exact Smm.sub (ih T2 y8 y9 y10 hkd hF2 hL2) ⟨Or.inr rfl, Or.inr rfl, Or.inr rfl, Or.inr rfl, Or.inr rfl, Or.inr (sI hv.symm), Or.inr rfl, Or.inr (sI e2), Or.inr rfl, Or.inr rfl, Or.inr rfl, trivial⟩
        refine sound ok_Plans_turnOf [34, 232] 100 ?_
        refine ⟨b8, ?_⟩
        refine ⟨fun z => absurd z (by rw [e1]; exact hlt), fun _ => ?_⟩
        refine ⟨bk, ?_⟩
        refine ⟨fun g0 => ?_, fun g0 => ?_⟩
        · rw [ec] at g0
          have hc4 := hwd.2.1.resolve_left (fun z => absurd z.1 (by omega))
          refine ⟨fun g3 => ?_, fun g3 => ?_⟩
          · rw [ec] at g3
            have inout : c = -1 ∨ c = -2 := by omega
            refine ⟨fun g1 => ?_, fun g1 => ?_⟩
            · rw [ec] at g1
              have hc2 : c = -2 := inout.resolve_left g1
              have h2 := hlv.2 hc2
              match r, t1, t2, t3, hlv, br, next, h2 with
              | [], t1, t2, t3, hlv, br, next, h2 => simp at h2
              | q2 :: r2, t1, t2, t3, hlv, br, next, h2 =>
                obtain ⟨s1, s2, s3⟩ := lvA_top t3
                rw [List.length_cons] at t1 t2 br ⊢
                have est : stX h c (q :: q2 :: r2) = (q2.1, max q2.2 (min q.1 q.2)) :: r2 := by
                  rw [hc2]; rfl
                rw [est] at next
                have b2 : 0 ≤ (r2.length : Int) ∧ (r2.length : Int) < 7 := by omega
                have b3 : 0 ≤ ((r2.length + 1 : Nat) : Int) ∧ ((r2.length + 1 : Nat) : Int) < 7 := by omega
                have hpos : ¬ ((r2.length + 1 : Nat) : Int) ≤ 0 := by omega
                have ev : (r2.length : Int) = (((q2.1, max q2.2 (min q.1 q.2)) :: r2).length : Int) - 1 := by rw [List.length_cons]; omega
                have e5 : i32 (((r2.length + 1 : Nat) : Int) + -1) = r2.length := by rw [i32_id (by omega) (by omega)]; omega
                refine ⟨fun z => absurd (ec ▸ hc2 : T 58 (160 * p + k) = -2) z, fun _ => ?_⟩
                refine ⟨fun z => absurd z hpos, fun _ => ?_⟩
                refine ⟨b3, ?_⟩
                refine ⟨b3, ?_⟩
                refine ⟨by rw [e5]; exact b2, ?_⟩
                refine ⟨by rw [e5]; exact b2, ?_⟩
                refine next _ _ _ _ _ (hF.up _ _ _ rfl) ?_ (by rw [e5]; exact ev)
                rw [e5]
                refine lvA_push _ _ s3 ?_ ?_
                · rw [up_o _ _ _ (by decide), ← s1, uf_self]
                · rw [up_c, s2, t1, t2]; rfl
            · rw [ec] at g1
              have h6 := hlv.1 g1
              have est : stX h c (q :: r) = (1000000, -1000000) :: q :: r := by rw [g1]; rfl
              rw [est] at next
              have b2 : 0 ≤ ((r.length + 1 : Nat) : Int) ∧ ((r.length + 1 : Nat) : Int) < 7 := by omega
              have h7 : ¬ 6 ≤ (r.length : Int) := by omega
              have ev : ((r.length + 1 : Nat) : Int) = (((1000000, -1000000) :: q :: r : List (Int × Int)).length : Int) - 1 := by rw [List.length_cons, List.length_cons]; omega
              have e5 : i32 ((r.length : Int) + 1) = ((r.length + 1 : Nat) : Int) := by rw [i32_id (by omega) (by omega)]; omega
              refine ⟨fun z => absurd z h7, fun _ => ?_⟩
              refine t_openLevel T _ _ (by rw [e5]; exact b2) ?_
              refine next _ _ _ _ _ ((hF.up _ _ _ rfl).up _ _ _ rfl) ?_ (by rw [e5]; exact ev)
              rw [e5]
              refine lvA_push _ _ hL ?_ ?_
              · rw [up_o _ _ _ (by decide), up_c]; rfl
              · rw [up_c, up_o _ _ _ (by decide)]; rfl
          · rw [ec] at g3
            have est : stX h c (q :: r) = (min q.1 q.2, -1000000) :: r := by rw [g3]; rfl
            rw [est] at next
            refine ⟨br, ?_⟩
            refine ⟨br, ?_⟩
            refine ⟨br, ?_⟩
            refine ⟨br, ?_⟩
            refine next _ _ _ _ _ ((hF.up _ _ _ rfl).up _ _ _ rfl) ?_ (by rw [List.length_cons]; omega)
            refine lvA_push _ _ t3 ?_ ?_
            · rw [up_o _ _ _ (by decide), up_c, t1, t2]; rfl
            · rw [up_c, up_o _ _ _ (by decide)]; rfl
        · rw [ec] at g0
          have hc := hwd.2.1.resolve_right (fun z => by omega)
          have est : stX h c (q :: r) = (q.1, max q.2 (h (c / 128) + c % 128)) :: r := by
            unfold stX
            dsimp only
            rw [if_pos g0]
          rw [est] at next
          have bs : 0 ≤ c / 128 ∧ c / 128 < 5 := by omega
          have bd : 0 ≤ 5 * g + c / 128 ∧ 5 * g + c / 128 < 20 := by omega
          have hb := hh (c / 128) bs.1 bs.2
          have f1 : T 100 = S 100 := hF.c _ rfl
          have f2 : T 70 = S 70 := hF.c _ rfl
          have ev : (r.length : Int) = (((q.1, max q.2 (h (c / 128) + c % 128)) :: r).length : Int) - 1 := by rw [List.length_cons]; omega
          have m1 : 0 ≤ c % 128 ∧ c % 128 ≤ 127 := by omega
          have e6 : ishr c 7 = c / 128 := ishr7 g0 (by omega)
          have e7 : iand c 127 = c % 128 := iand127 g0 (by omega)
          have e8 : i32 (5 * g + c / 128) = 5 * g + c / 128 := i32_id (by omega) (by omega)
          have e9 : i32 (i32 (T 100 (c / 128) + T 70 (5 * g + c / 128)) + c % 128) = h (c / 128) + c % 128 := by
            rw [f1, f2, hhv]
            rw [hhv] at hb
            exact px32 hb m1
          refine ⟨by rw [ec, e6]; exact bs, ?_⟩
          refine ⟨by rw [ec, e6, e8]; exact bd, ?_⟩
          refine ⟨br, ?_⟩
          refine ⟨br, ?_⟩
          refine next _ _ _ _ _ (hF.up _ _ _ rfl) ?_ ev
          rw [ec, e6, e7, e8, e9]
          refine lvA_push _ _ t3 ?_ ?_
          · rw [up_o _ _ _ (by decide), ← t1, uf_self]
          · rw [up_c, t2]; rfl
  have b8 : 0 ≤ p ∧ p < 8 := by omega
  have e0 := (p160 (k := 0) b8 (by decide)).2.1
  have go := loop xc.length 0 (up (up S 61 0 1000000) 62 0 (-1000000)) none none none (by omega) (((Fr.rf _ _ _).up _ _ _ rfl).up _ _ _ rfl) ?_
  · rw [Nat.sub_zero, List.drop_length] at go
    refine sound ok_Plans_turnOf [34] 40 ?_
    refine ⟨fun z => absurd z (by omega), fun _ => ?_⟩
    refine ⟨fun _ => ?_, fun z => absurd z (by omega)⟩
    refine t_openLevel S 0 _ (by decide) ?_
    exact Smm.sub go ⟨Or.inr rfl, Or.inr rfl, Or.inr rfl, Or.inr rfl, Or.inr rfl, Or.inr rfl, Or.inr (sI e0.symm), Or.inr (sI (by rw [e0]; omega)), Or.inl rfl, Or.inl rfl, Or.inl rfl, trivial⟩
  · rw [Nat.sub_zero, List.drop_length]
    refine lvA_push (S := S) 1000000 (-1000000) ⟨plA_nil _, plA_nil _⟩ ?_ ?_
    · rw [up_o _ _ _ (by decide), up_c]; rfl
    · rw [up_c, up_o _ _ _ (by decide)]; rfl
set_option maxHeartbeats 4000000 in
theorem t_turnOf_o (S : St) (p g : Int) (xc : List Int) (Q : Option AV → St → Prop) (hp : 0 ≤ p ∧ p < S 57 3 ∧ S 57 3 ≤ 8) (hg : 0 ≤ g ∧ g < 4) (hsz : S 59 p = xc.length) (hxl : xc.length ≤ 160) (hcd : ∀ k : Nat, k < xc.length → S 58 (160 * p + k) = xc.getD (xc.length - 1 - k) 0) (hwf : wfX xc)
    (hh : ∀ s, 0 ≤ s → s < 5 → -5000 ≤ S 100 s + S 78 (5 * g + s) ∧ S 100 s + S 78 (5 * g + s) ≤ 4000000)
    (hQ : ∀ S' e l, Fr [61, 62] [] S S' → (∃ r, pkX (fun s => S 100 s + S 78 (5 * g + s)) xc = r ++ [(e, l)]) → (lvL xc = 1 → pkX (fun s => S 100 s + S 78 (5 * g + s)) xc = [(e, l)]) → Q (some (.inl (min e l))) S') : Smm H_Plans_turnOf 0 [some (.inr (.inr 57)), some (.inl p), some (.inr (.inr 100)), some (.inr (.inr 78)), some (.inl (5 * g)), none, none, none, none, none, none] [] S Q := by
  generalize hH : (fun s => S 100 s + S 78 (5 * g + s)) = h at hQ
  have hhv : ∀ s, S 100 s + S 78 (5 * g + s) = h s := fun s => by rw [← hH]
  have loop : ∀ (d k : Nat) (T : St) (x8 x9 x10 : Option AV), k + d = xc.length → Fr [61, 62] [] S T → lvA T (pkX h (xc.drop (xc.length - k))) → Smm H_Plans_turnOf 34 [some (.inr (.inr 57)), some (.inl p), some (.inr (.inr 100)), some (.inr (.inr 78)), some (.inl (5 * g)), some (.inl ((pkX h (xc.drop (xc.length - k))).length - 1 : Int)), some (.inl (160 * p)), some (.inl (160 * p + k)), x8, x9, x10] [] T Q := by
    intro d
    induction d with
    | zero =>
      intro k T x8 x9 x10 hk hF hL
      have ez : T 59 p = xc.length := by rw [hF.c 59 rfl, hsz]
      have b8 : 0 ≤ p ∧ p < 8 := by omega
      have b0 : (0 : Int) ≤ 0 ∧ (0 : Int) < 7 := by decide
      rw [show xc.length - k = 0 by omega, List.drop_zero] at hL ⊢
      have hk2 : k = xc.length := by omega
      obtain ⟨hxx, hx1⟩ := pkX_len h xc hwf
      obtain ⟨r, q, hr⟩ : ∃ r q, pkX h xc = r ++ [q] := by
        rcases List.eq_nil_or_concat (pkX h xc) with z | ⟨r, q, z⟩
        · rw [z] at hxx; simp at hxx; omega
        · exact ⟨r, q, by rw [z, List.concat_eq_append]⟩
      have v1 : T 61 0 = q.1 := by
        have := hL.1 0 (by rw [hr]; simp)
        rw [hr] at this
        simpa using this
      have v2 : T 62 0 = q.2 := by
        have := hL.2 0 (by rw [hr]; simp)
        rw [hr] at this
        simpa using this
      have hq := hQ T q.1 q.2 hF ⟨r, hr⟩ (fun z => by
        rw [z, hr] at hxx
        have : r = [] := by
          cases r with
          | nil => rfl
          | cons a b => simp at hxx
        rw [hr, this]; rfl)
      rw [← v1, ← v2] at hq
      have e1 : i32 (160 * p + T 59 p) = 160 * p + k := by rw [ez, hk2]; exact (p160 (k := xc.length) b8 (by omega)).2.2
      refine sound ok_Plans_turnOf [34] 60 ?_
      refine ⟨b8, ?_⟩
      refine ⟨fun _ => ?_, fun z => absurd z (by rw [e1]; exact Int.lt_irrefl _)⟩
      refine ⟨b0, ?_⟩
      refine ⟨b0, ?_⟩
      exact hq
    | succ d ih =>
      intro k T x8 x9 x10 hk hF hL
      have hkl : k < xc.length := by omega
      have ez : T 59 p = xc.length := by rw [hF.c 59 rfl, hsz]
      have b8 : 0 ≤ p ∧ p < 8 := by omega
      have ec : T 58 (160 * p + k) = xc.getD (xc.length - 1 - k) 0 := by rw [hF.c 58 rfl]; exact hcd k hkl
      have bk : 0 ≤ 160 * p + (k : Int) ∧ 160 * p + (k : Int) < 1280 := by omega
      have hlt : ¬ 160 * p + (xc.length : Int) ≤ 160 * p + k := by omega
      have hdr := dropS hkl
      have hwd := wfX_drop (xc.length - (k + 1)) xc hwf
      have ih := ih (k + 1)
      rw [hdr] at ih hwd
      generalize xc.getD (xc.length - 1 - k) 0 = c at *
      obtain ⟨hxx, hx1⟩ := pkX_len h _ hwd.1
      have hlv := hwd.2.2
      rw [← hxx] at hlv
      generalize hXs : xc.drop (xc.length - k) = xs at *
      have hpk : pkX h (c :: xs) = stX h c (pkX h xs) := rfl
      rw [hpk] at ih
      match hX : pkX h xs, hxx, hL with
      | [], hxx, hL => simp at hxx; omega
      | q :: r, hxx, hL =>
        rw [hX] at ih hlv
        obtain ⟨t1, t2, t3⟩ := lvA_top hL
        rw [List.length_cons] at hlv hxx ⊢
        have hlev : ((r.length + 1 : Nat) : Int) - 1 = (r.length : Int) := by omega
        rw [hlev]
        have hkd : k + 1 + d = xc.length := by omega
        have e1 : i32 (160 * p + T 59 p) = 160 * p + xc.length := by rw [ez]; exact (p160 (k := xc.length) b8 (by omega)).2.2
        have e2 : 160 * p + ((k + 1 : Nat) : Int) = i32 (160 * p + (k : Int) + 1) := by
          rw [show 160 * p + (k : Int) + 1 = 160 * p + ((k + 1 : Nat) : Int) by omega]
          exact (p160 (k := ((k + 1 : Nat) : Int)) b8 (by omega)).2.2.symm
        have hlv7 := wfX_lv xs hwd.1
        have br : 0 ≤ (r.length : Int) ∧ (r.length : Int) < 7 := by omega
        clear ez hdr
        have next : ∀ (T2 : St) (v : Int) (y8 y9 y10 : Option AV), Fr [61, 62] [] S T2 → lvA T2 (stX h c (q :: r)) → v = ((stX h c (q :: r)).length : Int) - 1 → Smm H_Plans_turnOf 232 [some (.inr (.inr 57)), some (.inl p), some (.inr (.inr 100)), some (.inr (.inr 78)), some (.inl (5 * g)), some (.inl v), some (.inl (160 * p)), some (.inl (160 * p + k)), y8, y9, y10] [] T2 Q := by
          intro T2 v y8 y9 y10 hF2 hL2 hv
          refine sound ok_Plans_turnOf [34] 20 ?_
          exact Smm.sub (ih T2 y8 y9 y10 hkd hF2 hL2) ⟨Or.inr rfl, Or.inr rfl, Or.inr rfl, Or.inr rfl, Or.inr rfl, Or.inr (sI hv.symm), Or.inr rfl, Or.inr (sI e2), Or.inr rfl, Or.inr rfl, Or.inr rfl, trivial⟩
        refine sound ok_Plans_turnOf [34, 232] 100 ?_
        refine ⟨b8, ?_⟩
        refine ⟨fun z => absurd z (by rw [e1]; exact hlt), fun _ => ?_⟩
        refine ⟨bk, ?_⟩
        refine ⟨fun g0 => ?_, fun g0 => ?_⟩
        · rw [ec] at g0
          have hc4 := hwd.2.1.resolve_left (fun z => absurd z.1 (by omega))
          refine ⟨fun g3 => ?_, fun g3 => ?_⟩
          · rw [ec] at g3
            have inout : c = -1 ∨ c = -2 := by omega
            refine ⟨fun g1 => ?_, fun g1 => ?_⟩
            · rw [ec] at g1
              have hc2 : c = -2 := inout.resolve_left g1
              have h2 := hlv.2 hc2
              match r, t1, t2, t3, hlv, br, next, h2 with
              | [], t1, t2, t3, hlv, br, next, h2 => simp at h2
              | q2 :: r2, t1, t2, t3, hlv, br, next, h2 =>
                obtain ⟨s1, s2, s3⟩ := lvA_top t3
                rw [List.length_cons] at t1 t2 br ⊢
                have est : stX h c (q :: q2 :: r2) = (q2.1, max q2.2 (min q.1 q.2)) :: r2 := by
                  rw [hc2]; rfl
                rw [est] at next
                have b2 : 0 ≤ (r2.length : Int) ∧ (r2.length : Int) < 7 := by omega
                have b3 : 0 ≤ ((r2.length + 1 : Nat) : Int) ∧ ((r2.length + 1 : Nat) : Int) < 7 := by omega
                have hpos : ¬ ((r2.length + 1 : Nat) : Int) ≤ 0 := by omega
                have ev : (r2.length : Int) = (((q2.1, max q2.2 (min q.1 q.2)) :: r2).length : Int) - 1 := by rw [List.length_cons]; omega
                have e5 : i32 (((r2.length + 1 : Nat) : Int) + -1) = r2.length := by rw [i32_id (by omega) (by omega)]; omega
                refine ⟨fun z => absurd (ec ▸ hc2 : T 58 (160 * p + k) = -2) z, fun _ => ?_⟩
                refine ⟨fun z => absurd z hpos, fun _ => ?_⟩
                refine ⟨b3, ?_⟩
                refine ⟨b3, ?_⟩
                refine ⟨by rw [e5]; exact b2, ?_⟩
                refine ⟨by rw [e5]; exact b2, ?_⟩
                refine next _ _ _ _ _ (hF.up _ _ _ rfl) ?_ (by rw [e5]; exact ev)
                rw [e5]
                refine lvA_push _ _ s3 ?_ ?_
                · rw [up_o _ _ _ (by decide), ← s1, uf_self]
                · rw [up_c, s2, t1, t2]; rfl
            · rw [ec] at g1
              have h6 := hlv.1 g1
              have est : stX h c (q :: r) = (1000000, -1000000) :: q :: r := by rw [g1]; rfl
              rw [est] at next
              have b2 : 0 ≤ ((r.length + 1 : Nat) : Int) ∧ ((r.length + 1 : Nat) : Int) < 7 := by omega
              have h7 : ¬ 6 ≤ (r.length : Int) := by omega
              have ev : ((r.length + 1 : Nat) : Int) = (((1000000, -1000000) :: q :: r : List (Int × Int)).length : Int) - 1 := by rw [List.length_cons, List.length_cons]; omega
              have e5 : i32 ((r.length : Int) + 1) = ((r.length + 1 : Nat) : Int) := by rw [i32_id (by omega) (by omega)]; omega
              refine ⟨fun z => absurd z h7, fun _ => ?_⟩
              refine t_openLevel T _ _ (by rw [e5]; exact b2) ?_
              refine next _ _ _ _ _ ((hF.up _ _ _ rfl).up _ _ _ rfl) ?_ (by rw [e5]; exact ev)
              rw [e5]
              refine lvA_push _ _ hL ?_ ?_
              · rw [up_o _ _ _ (by decide), up_c]; rfl
              · rw [up_c, up_o _ _ _ (by decide)]; rfl
          · rw [ec] at g3
            have est : stX h c (q :: r) = (min q.1 q.2, -1000000) :: r := by rw [g3]; rfl
            rw [est] at next
            refine ⟨br, ?_⟩
            refine ⟨br, ?_⟩
            refine ⟨br, ?_⟩
            refine ⟨br, ?_⟩
            refine next _ _ _ _ _ ((hF.up _ _ _ rfl).up _ _ _ rfl) ?_ (by rw [List.length_cons]; omega)
            refine lvA_push _ _ t3 ?_ ?_
            · rw [up_o _ _ _ (by decide), up_c, t1, t2]; rfl
            · rw [up_c, up_o _ _ _ (by decide)]; rfl
        · rw [ec] at g0
          have hc := hwd.2.1.resolve_right (fun z => by omega)
          have est : stX h c (q :: r) = (q.1, max q.2 (h (c / 128) + c % 128)) :: r := by
            unfold stX
            dsimp only
            rw [if_pos g0]
          rw [est] at next
          have bs : 0 ≤ c / 128 ∧ c / 128 < 5 := by omega
          have bd : 0 ≤ 5 * g + c / 128 ∧ 5 * g + c / 128 < 20 := by omega
          have hb := hh (c / 128) bs.1 bs.2
          have f1 : T 100 = S 100 := hF.c _ rfl
          have f2 : T 78 = S 78 := hF.c _ rfl
          have ev : (r.length : Int) = (((q.1, max q.2 (h (c / 128) + c % 128)) :: r).length : Int) - 1 := by rw [List.length_cons]; omega
          have m1 : 0 ≤ c % 128 ∧ c % 128 ≤ 127 := by omega
          have e6 : ishr c 7 = c / 128 := ishr7 g0 (by omega)
          have e7 : iand c 127 = c % 128 := iand127 g0 (by omega)
          have e8 : i32 (5 * g + c / 128) = 5 * g + c / 128 := i32_id (by omega) (by omega)
          have e9 : i32 (i32 (T 100 (c / 128) + T 78 (5 * g + c / 128)) + c % 128) = h (c / 128) + c % 128 := by
            rw [f1, f2, hhv]
            rw [hhv] at hb
            exact px32 hb m1
          refine ⟨by rw [ec, e6]; exact bs, ?_⟩
          refine ⟨by rw [ec, e6, e8]; exact bd, ?_⟩
          refine ⟨br, ?_⟩
          refine ⟨br, ?_⟩
          refine next _ _ _ _ _ (hF.up _ _ _ rfl) ?_ ev
          rw [ec, e6, e7, e8, e9]
          refine lvA_push _ _ t3 ?_ ?_
          · rw [up_o _ _ _ (by decide), ← t1, uf_self]
          · rw [up_c, t2]; rfl
  have b8 : 0 ≤ p ∧ p < 8 := by omega
  have e0 := (p160 (k := 0) b8 (by decide)).2.1
  have go := loop xc.length 0 (up (up S 61 0 1000000) 62 0 (-1000000)) none none none (by omega) (((Fr.rf _ _ _).up _ _ _ rfl).up _ _ _ rfl) ?_
  · rw [Nat.sub_zero, List.drop_length] at go
    refine sound ok_Plans_turnOf [34] 40 ?_
    refine ⟨fun z => absurd z (by omega), fun _ => ?_⟩
    refine ⟨fun _ => ?_, fun z => absurd z (by omega)⟩
    refine t_openLevel S 0 _ (by decide) ?_
    exact Smm.sub go ⟨Or.inr rfl, Or.inr rfl, Or.inr rfl, Or.inr rfl, Or.inr rfl, Or.inr rfl, Or.inr (sI e0.symm), Or.inr (sI (by rw [e0]; omega)), Or.inl rfl, Or.inl rfl, Or.inl rfl, trivial⟩
  · rw [Nat.sub_zero, List.drop_length]
    refine lvA_push (S := S) 1000000 (-1000000) ⟨plA_nil _, plA_nil _⟩ ?_ ?_
    · rw [up_o _ _ _ (by decide), up_c]; rfl
    · rw [up_c, up_o _ _ _ (by decide)]; rfl
