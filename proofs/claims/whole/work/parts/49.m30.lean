/-! the reference: a plan read -/
def mT (q : PT) (T : St) : Prop := T 0 17 = q.2.1.1.length ∧ T 0 15 = q.2.1.2.length ∧ plA (T 6) q.2.1.1 ∧ plA (T 5) q.2.1.2
set_option maxHeartbeats 4000000 in
set_option maxRecDepth 4000 in
theorem t_M_wrongPlan (S : St) (Q : Option AV → St → Prop) (hn : 0 ≤ S 0 2 ∧ S 0 2 ≤ 160) (htp : ∀ j, 0 ≤ j → j < S 0 2 → 1 ≤ S 1 j ∧ S 1 j ≤ 255)
    (hQ : ∀ T, Fr [5, 6] [(0, 3), (0, 4), (0, 15), (0, 17)] S T → ((rdT (S 1) (S 0 2)).1 = -1 → mT (rdT (S 1) (S 0 2)).2 T) → Q (some (.inl (rdT (S 1) (S 0 2)).1)) T) : Smm H_M_wrongPlan 0 [some (.inr (.inr 0)), none, none, none] [] S Q := by
  generalize ht : S 1 = t at hQ htp
  generalize hnn : S 0 2 = n at hQ hn htp
  have bad : ∀ (W : Int) (q : PT) (T : St), Fr [5, 6] [(0, 3), (0, 4), (0, 15), (0, 17)] S T → (W, q) = rdT t n → 0 ≤ W → Q (some (.inl W)) T := by
    intro W q T hF hW h0
    have hq := hQ T hF (fun z => absurd z (by rw [← hW]; dsimp only; omega))
    rwa [← hW] at hq
  have chn : ∀ s, 0 ≤ ch t n s → s < n ∧ ch t n s = t s := fun s h => by
    unfold ch at h ⊢
    by_cases z : s < n
    · rw [if_pos z]; exact ⟨z, rfl⟩
    · rw [if_neg z] at h; exact absurd h (by decide)
  have q1 : ∀ T, Fr [5, 6] [(0, 3), (0, 4), (0, 15), (0, 17)] S T → T 1 = t := fun T hF => by rw [hF.c 1 rfl, ht]
  have q2 : ∀ T, Fr [5, 6] [(0, 3), (0, 4), (0, 15), (0, 17)] S T → T 0 2 = n := fun T hF => by rw [hF.s 0 2 rfl, hnn]
  have key : ∀ d : Nat, (∀ (q : PT) (T : St) (x3 : Option AV), n - q.1.1 < d → okT n q → Fr [5, 6] [(0, 3), (0, 4), (0, 15), (0, 17)] S T → T 0 4 = -1 → T 0 3 = sk t n q.1.1 → mT q T → plR t n d true q = rdT t n → Smm H_M_wrongPlan 27 [some (.inr (.inr 0)), some (.inl q.1.2), some (.inl (ch t n (sk t n q.1.1))), x3] [] T Q) ∧
      (∀ (q : PT) (T : St) (x3 : Option AV), n - q.1.1 < d → okT n q → Fr [5, 6] [(0, 3), (0, 4), (0, 15), (0, 17)] S T → T 0 4 = -1 → T 0 3 = sk t n q.1.1 → mT q T → plR t n d false q = rdT t n → Smm H_M_wrongPlan 182 [some (.inr (.inr 0)), some (.inl q.1.2), some (.inl (ch t n (sk t n q.1.1))), x3] [] T Q) := by
    intro d
    induction d with
    | zero => exact ⟨fun q T x3 h1 h2 => absurd h1 (by have := h2.1; omega), fun q T x3 h1 h2 => absurd h1 (by have := h2.1; omega)⟩
    | succ d ih =>
      obtain ⟨ihU, ihB⟩ := ih
      -- behind blanks, to a place where a unit or what is behind one comes
      have seeU : ∀ (q : PT) (T : St) (x2 : Int) (x3 : Option AV), n - q.1.1 < d → okT n q → Fr [5, 6] [(0, 3), (0, 4), (0, 15), (0, 17)] S T → T 0 4 = -1 → T 0 3 = q.1.1 → mT q T → plR t n d true q = rdT t n → Smm H_M_wrongPlan 22 [some (.inr (.inr 0)), some (.inl q.1.2), some (.inl x2), x3] [] T Q := by
        intro q T x2 x3 h1 h2 hF hw ha hm hr
        refine sound ok_M_wrongPlan [27] 20 ?_
        refine t_M_sees T _ (by rw [ha]; exact h2.1.1) (by rw [q2 T hF]; exact hn.2) ?_
        rw [q1 T hF, q2 T hF, ha]
        refine ihU q _ x3 h1 h2 (hF.up _ _ _ rfl) (by rw [up_n _ _ _ (by decide)]; exact hw) (up_s _ _ _ _) ?_ hr
        unfold mT at hm ⊢
        rw [up_n _ _ _ (by decide), up_n _ _ _ (by decide), up_o _ _ _ (by decide), up_o _ _ _ (by decide)]
        exact hm
      constructor
      · intro q T x3 hd hok hF hw ha hm hr
        obtain ⟨⟨a0, a1⟩, ⟨d0, d1⟩, hlen, hc3, hmem, hxl⟩ := hok
        obtain ⟨m1, m2, m3, m4⟩ := hm
        have hsb := sk_b t n q.1.1
        rw [plR] at hr
        generalize hs : sk t n q.1.1 = s at *
        have hc := chn s
        generalize hce : ch t n s = c at *
        have frs : ∀ V : St, V 0 17 = T 0 17 → V 0 15 = T 0 15 → V 6 = T 6 → V 5 = T 5 → V 0 17 = q.2.1.1.length ∧ V 0 15 = q.2.1.2.length ∧ plA (V 6) q.2.1.1 ∧ plA (V 5) q.2.1.2 := fun V e1 e2 e3 e4 => by
          rw [e1, e2, e3, e4]
          exact ⟨m1, m2, m3, m4⟩
        -- a code is put down
        have push : ∀ (q' : PT) (V : St) (cv : Int), s < n → Fr [5, 6] [(0, 3), (0, 4), (0, 15), (0, 17)] S V → V 0 4 = -1 → V 0 3 = q'.1.1 → V 0 17 = q.2.1.1.length ∧ V 0 15 = q.2.1.2.length ∧ plA (V 6) q.2.1.1 ∧ plA (V 5) q.2.1.2 → q'.1.2 = q.1.2 → q'.2.1.1 = q.2.1.1 → q'.2.1.2 = cv :: q.2.1.2 → (q'.2.2.1.length : Int) ≤ q.2.2.1.length + 1 → (s < q'.1.1 ∧ q'.1.1 ≤ n) → plR t n d false q' = rdT t n → Smm H_M_wrongPlan 157 [some (.inr (.inr 0)), some (.inl q.1.2), some (.inl c), some (.inl cv)] [] V Q := by
          intro q' V cv hsn hFV hwV haV hV k1 k2 k3 k4 k5 hrV
          obtain ⟨v1, v2, v3, v4⟩ := hV
          have b1 : 0 ≤ V 0 15 ∧ V 0 15 < 160 := by rw [v2]; omega
          have e1 : i32 (V 0 15 + 1) = q.2.1.2.length + 1 := by rw [v2, i32_id (by omega) (by omega)]
          generalize hU : up (up V 5 (V 0 15) cv) 0 15 (i32 (V 0 15 + 1)) = U
          have hFU : Fr [5, 6] [(0, 3), (0, 4), (0, 15), (0, 17)] S U := by rw [← hU]; exact (hFV.up _ _ _ rfl).up _ _ _ rfl
          have u3 : U 0 3 = q'.1.1 := by rw [← hU, up_n _ _ _ (by decide), up_o _ _ _ (by decide), haV]
          have go := ihB q' (up U 0 3 (sk t n q'.1.1)) (some (.inl cv)) (by omega) ⟨by omega, by rw [k1]; exact ⟨d0, d1⟩, by rw [k2, k3, List.length_cons]; push_cast; omega, by rw [k2, k1]; exact hc3, by rw [k2]; exact hmem, by omega⟩ (hFU.up _ _ _ rfl) (by rw [up_n _ _ _ (by decide), ← hU, up_n _ _ _ (by decide), up_o _ _ _ (by decide), hwV]) (up_s _ _ _ _) ⟨?_, ?_, ?_, ?_⟩ hrV
          · have go2 : ∀ Q' : Option AV → St → Prop, Q' (some (.inl (ch t n (sk t n q'.1.1)))) (up U 0 3 (sk t n q'.1.1)) → Smm H_M_sees 0 [some (.inr (.inr 0))] [] U Q' := by
              intro Q' hq'
              refine t_M_sees U Q' (by rw [u3]; omega) (by rw [q2 U hFU]; exact hn.2) ?_
              rw [q1 U hFU, q2 U hFU, u3]
              exact hq'
            rw [k1] at go
            rw [← hU] at go2 go
            refine sound ok_M_wrongPlan [182] 60 ?_
            refine ⟨b1, ?_⟩
            refine go2 _ ?_
            exact go
          · rw [up_n _ _ _ (by decide), ← hU, up_n _ _ _ (by decide), up_o _ _ _ (by decide), k2]; exact v1
          · rw [up_n _ _ _ (by decide), ← hU, up_s, e1, k3]; simp
          · rw [up_o _ _ _ (by decide), ← hU, up_o _ _ _ (by decide), up_o _ _ _ (by decide), k2]; exact v3
          · rw [up_o _ _ _ (by decide), ← hU, up_o _ _ _ (by decide), up_c, v2, k3]
            exact plA_push v4 cv
        -- a letter
        have letter : ¬ (c = 40 ∧ q.1.2 < 6) → Smm H_M_wrongPlan 81 [some (.inr (.inr 0)), some (.inl q.1.2), some (.inl c), x3] [] T Q := by
          intro g40
          rw [if_neg g40] at hr
          have no : ¬ (97 ≤ c ∧ c ≤ 101) → Smm H_M_wrongPlan 93 [some (.inr (.inr 0)), some (.inl q.1.2), some (.inl c), x3] [] T Q := by
            intro hz
            rw [if_neg hz] at hr
            have hq := bad s q T hF hr (by omega)
            rw [← ha] at hq
            refine sound ok_M_wrongPlan [] 20 ?_
            exact hq
          refine sound ok_M_wrongPlan [93, 98] 20 ?_
          refine ⟨fun g => no (by omega), fun g97 => ?_⟩
          refine ⟨fun g101 => ?_, fun g => no (by omega)⟩
          rw [if_pos ⟨g97, g101⟩] at hr
          obtain ⟨hsn, hts⟩ := hc (by omega)
          have hsb2 := sk_b t n (s + 1)
          generalize hs2 : sk t n (s + 1) = b at *
          have e1 : i32 (T 0 3 + 1) = s + 1 := by rw [ha]; exact i32_id (by omega) (by omega)
          have e2 : i32 (100 * i32 (c - 97)) = 100 * (c - 97) := by rw [i32_id (v := c - 97) (by omega) (by omega)]; exact i32_id (by omega) (by omega)
          generalize hV1 : up T 0 3 (s + 1) = V1
          have hF1 : Fr [5, 6] [(0, 3), (0, 4), (0, 15), (0, 17)] S V1 := by rw [← hV1]; exact hF.up _ _ _ rfl
          have v3 : V1 0 3 = s + 1 := by rw [← hV1, up_s]
          generalize hV2 : up V1 0 3 b = V2
          have hV2' : V2 = up T 0 3 b := by rw [← hV2, ← hV1, up_up]
          have hF2 : Fr [5, 6] [(0, 3), (0, 4), (0, 15), (0, 17)] S V2 := by rw [← hV2]; exact hF1.up _ _ _ rfl
          have w3 : V2 0 3 = b := by rw [← hV2, up_s]
          have w4 : V2 0 4 = -1 := by rw [hV2', up_n _ _ _ (by decide), hw]
          have sees1 : ∀ Q' : Option AV → St → Prop, Q' (some (.inl (ch t n b))) V2 → Smm H_M_sees 0 [some (.inr (.inr 0))] [] V1 Q' := by
            intro Q' hq'
            refine t_M_sees V1 Q' (by rw [v3]; omega) (by rw [q2 V1 hF1]; exact hn.2) ?_
            rw [q1 V1 hF1, q2 V1 hF1, v3, hs2, hV2]
            exact hq'
          -- behind the letter
          have behind : Smm H_M_wrongPlan 98 [some (.inr (.inr 0)), some (.inl q.1.2), some (.inl c), x3] [] T Q := by
            rw [← hV1, ← e1] at sees1
            refine sound ok_M_wrongPlan [157] 60 ?_
            refine sees1 _ ?_
            refine ⟨fun g43 => ?_, fun g43 => ?_⟩
            · rw [if_neg g43] at hr
              have go := push ((b, q.1.2), (q.2.1.1, (100 * (c - 97)) :: q.2.1.2), ((128 * (c - 97)) :: q.2.2.1, ior q.2.2.2 (ishl 1 (c - 97)))) V2 (100 * (c - 97)) hsn hF2 w4 (by rw [w3]) (frs V2 (by rw [hV2', up_n _ _ _ (by decide)]) (by rw [hV2', up_n _ _ _ (by decide)]) (by rw [hV2', up_o _ _ _ (by decide)]) (by rw [hV2', up_o _ _ _ (by decide)])) rfl rfl rfl (by simp) (by dsimp only; omega) hr
              rw [← e2] at go
              exact go
            · rw [if_pos g43] at hr
              obtain ⟨hbn, htb⟩ := chn b (by omega)
              have hnA := nmA_b (t := t) (n := n) (a := b + 1)
              have hnW := nmW_g (t := t) (n := n) (lo := 0) (hi := 99) (a := b + 1) (by omega)
              have e3 : i32 (V2 0 3 + 1) = b + 1 := by rw [w3]; exact i32_id (by omega) (by omega)
              generalize hV3 : up V2 0 3 (b + 1) = V3
              have hF3 : Fr [5, 6] [(0, 3), (0, 4), (0, 15), (0, 17)] S V3 := by rw [← hV3]; exact hF2.up _ _ _ rfl
              have x3' : V3 0 3 = b + 1 := by rw [← hV3, up_s]
              have x4' : V3 0 4 = -1 := by rw [← hV3, up_n _ _ _ (by decide), w4]
              have reads1 : ∀ Q' : Option AV → St → Prop, (∀ v W, W = nmW t n 0 99 (b + 1) → (W = -1 → v = nmV t n (b + 1)) → Q' (some (.inl v)) (up (up V3 0 3 (nmA t n (b + 1))) 0 4 (if W = -1 then -1 else W))) → Smm H_M_reads 0 [some (.inr (.inr 0)), some (.inl 0), some (.inl 99), none, none] [] V3 Q' := by
                intro Q' hq'
                refine t_M_reads V3 0 99 Q' (by rw [x3']; omega) (by rw [q2 V3 hF3]; exact hn.2) (fun v W hW hv => ?_)
                rw [q1 V3 hF3, q2 V3 hF3, x3'] at hW hv ⊢
                rw [x4']
                exact hq' v W hW hv
              have hV3' : up V2 0 3 (i32 (V2 0 3 + 1)) = V3 := by rw [e3, hV3]
              rw [← hV3'] at reads1
              refine reads1 _ (fun v W hW hv => ?_)
              rw [← hW] at hr hnW
              generalize hV4 : up (up V3 0 3 (nmA t n (b + 1))) 0 4 (if W = -1 then -1 else W) = V4
              have hV4' : up (up (up V2 0 3 (i32 (V2 0 3 + 1))) 0 3 (nmA t n (b + 1))) 0 4 (if W = -1 then -1 else W) = V4 := by rw [e3, hV3, hV4]
              have hF4 : Fr [5, 6] [(0, 3), (0, 4), (0, 15), (0, 17)] S V4 := by rw [← hV4]; exact (hF3.up _ _ _ rfl).up _ _ _ rfl
              have y3 : V4 0 3 = nmA t n (b + 1) := by rw [← hV4, up_n _ _ _ (by decide), up_s]
              have y4 : V4 0 4 = if W = -1 then -1 else W := by rw [← hV4, up_s]
              rw [hV4']
              by_cases hW1 : W = -1
              · rw [if_pos hW1] at hr y4
                have hf := nm_fine (by omega) (hW ▸ hW1 : nmW t n 0 99 (b + 1) = -1)
                have hv := hv hW1
                have e4 : i32 (i32 (100 * i32 (c - 97)) + v) = 100 * (c - 97) + nmV t n (b + 1) := by rw [e2, hv]; exact i32_id (by omega) (by omega)
                refine ⟨fun _ => ?_, fun z => absurd z (by rw [y4]; decide)⟩
                have oo : ∀ cc, cc ≠ 0 → V4 cc = T cc := fun cc hcc => by rw [← hV4, up_o _ _ _ hcc, up_o _ _ _ hcc, ← hV3, up_o _ _ _ hcc, hV2', up_o _ _ _ hcc]
                have o0 : ∀ j, j ≠ 3 → j ≠ 4 → V4 0 j = T 0 j := fun j j3 j4 => by rw [← hV4, up_n _ _ _ j4, up_n _ _ _ j3, ← hV3, up_n _ _ _ j3, hV2', up_n _ _ _ j3]
                have go := push ((nmA t n (b + 1), q.1.2), (q.2.1.1, (100 * (c - 97) + nmV t n (b + 1)) :: q.2.1.2), ((128 * (c - 97) + nmV t n (b + 1)) :: q.2.2.1, ior q.2.2.2 (ishl 1 (c - 97)))) V4 (100 * (c - 97) + nmV t n (b + 1)) hsn hF4 y4 (by rw [y3]) (frs V4 (o0 _ (by decide) (by decide)) (o0 _ (by decide) (by decide)) (oo _ (by decide)) (oo _ (by decide))) rfl rfl rfl (by simp) (by dsimp only; omega) hr
                rw [← e4] at go
                exact go
              · rw [if_neg hW1] at hr y4
                refine ⟨fun z => absurd z (by rw [y4]; omega), fun _ => ?_⟩
                have hq := bad W q V4 hF4 hr (by omega)
                rw [← y4] at hq
                exact hq
          exact behind
        refine sound ok_M_wrongPlan [81, 27] 60 ?_
        refine ⟨fun g => letter (fun z => g z.1), fun g40 => ?_⟩
        refine ⟨fun g => letter (fun z => absurd z.2 (by omega)), fun g6 => ?_⟩
        rw [if_pos ⟨g40, g6⟩] at hr
        obtain ⟨hsn, hts⟩ := hc (by omega)
        have b1 : 0 ≤ T 0 17 ∧ T 0 17 < 160 := by rw [m1]; omega
        refine ⟨b1, ?_⟩
        have e1 : i32 (T 0 17 + 1) = q.2.1.1.length + 1 := by rw [m1, i32_id (by omega) (by omega)]
        have e3 : i32 (T 0 3 + 1) = s + 1 := by rw [ha]; exact i32_id (by omega) (by omega)
        generalize hV : up (up (up T 6 (T 0 17) (-3)) 0 17 (i32 (T 0 17 + 1))) 0 3 (i32 (T 0 3 + 1)) = V
        have hFV : Fr [5, 6] [(0, 3), (0, 4), (0, 15), (0, 17)] S V := by rw [← hV]; exact ((hF.up _ _ _ rfl).up _ _ _ rfl).up _ _ _ rfl
        have v3 : V 0 3 = s + 1 := by rw [← hV, up_s, e3]
        have go := ihU _ (up V 0 3 (sk t n (s + 1))) x3 (by dsimp only; omega) ⟨by dsimp only; omega, by dsimp only; omega, by dsimp only; rw [List.length_cons]; push_cast; omega, by dsimp only; rw [c3, if_pos rfl]; omega, fun w hw => ?_, by dsimp only; rw [List.length_cons]; push_cast; omega⟩ (hFV.up _ _ _ rfl) (by rw [up_n _ _ _ (by decide), ← hV, up_n _ _ _ (by decide), up_n _ _ _ (by decide), up_o _ _ _ (by decide), hw]) (up_s _ _ _ _) ⟨?_, ?_, ?_, ?_⟩ hr
        · have go2 : ∀ Q' : Option AV → St → Prop, Q' (some (.inl (ch t n (sk t n (s + 1))))) (up V 0 3 (sk t n (s + 1))) → Smm H_M_sees 0 [some (.inr (.inr 0))] [] V Q' := by
            intro Q' hq'
            refine t_M_sees V Q' (by rw [v3]; omega) (by rw [q2 V hFV]; exact hn.2) ?_
            rw [q1 V hFV, q2 V hFV, v3]
            exact hq'
          have e5 : i32 (q.1.2 + 1) = q.1.2 + 1 := i32_id (by omega) (by omega)
          rw [← hV] at go2 go
          refine go2 _ ?_
          exact Smm.sub go ⟨Or.inr rfl, Or.inr (sI e5.symm), Or.inr rfl, Or.inr rfl, trivial⟩
        · rcases List.mem_cons.mp hw with z | z
          · exact Or.inr (Or.inr z)
          · exact hmem w z
        · rw [up_n _ _ _ (by decide), ← hV, up_n _ _ _ (by decide), up_s, e1]; simp
        · rw [up_n _ _ _ (by decide), ← hV, up_n _ _ _ (by decide), up_n _ _ _ (by decide), up_o _ _ _ (by decide), m2]
        · rw [up_o _ _ _ (by decide), ← hV, up_o _ _ _ (by decide), up_o _ _ _ (by decide), up_c, m1]
          exact plA_push m3 (-3)
        · rw [up_o _ _ _ (by decide), ← hV, up_o _ _ _ (by decide), up_o _ _ _ (by decide), up_o _ _ _ (by decide)]; exact m4
      · intro q T x3 hd hok hF hw ha hm hr
        have hok2 := hok
        obtain ⟨⟨a0, a1⟩, ⟨d0, d1⟩, hlen, hc3, hmem, hxl⟩ := hok
        obtain ⟨m1, m2, m3, m4⟩ := hm
        have hsb := sk_b t n q.1.1
        rw [plR] at hr
        generalize hs : sk t n q.1.1 = s at *
        have hc := chn s
        generalize hce : ch t n s = c at *
        have hl160 : q.2.1.1.length + q.2.1.2.length ≤ 160 := by omega
        have rest : ¬ (c = 41 ∧ 0 < q.1.2) → Smm H_M_wrongPlan 229 [some (.inr (.inr 0)), some (.inl q.1.2), some (.inl c), x3] [] T Q := by
          intro g41
          rw [if_neg g41] at hr
          refine sound ok_M_wrongPlan [254] 60 ?_
          refine ⟨fun g1 => ?_, fun g1 => ?_⟩
          · rw [if_neg g1] at hr
            have op : (c = 38 ∨ c = 124) → Smm H_M_wrongPlan 254 [some (.inr (.inr 0)), some (.inl q.1.2), some (.inl c), x3] [] T Q := by
              intro hcc
              rw [if_pos hcc] at hr
              obtain ⟨hsn, hts⟩ := hc (by omega)
              have main : ∀ Q' : Option AV → St → Prop, (∀ T', (∀ v, v = opV c → Smm H_M_wrongPlan 290 [some (.inr (.inr 0)), some (.inl q.1.2), some (.inl c), x3] [.inl v, .inl (T' 0 17), .inr (.inr 6)] T' Q) → Q' none T') → Smm H_M_comesOut 0 [some (.inr (.inr 0)), some (.inl (opV c))] [] T Q' := by
                intro Q' hq'
                refine t_M_comesOut (opV c) Q' q.2.1.1 q.2.1.2 T m1 m2 m3 m4 hl160 (fun T' hF' g1 g2 g3 g4 g5 g6 => hq' T' (fun v hv => ?_))
                have hlen2 := coF_len (opV c) q.2.1.1 q.2.1.2
                have hFS := hF.tr hF'
                have b1 : 0 ≤ T' 0 17 ∧ T' 0 17 < 160 := by rw [g3]; omega
                have e1 : i32 (T' 0 17 + 1) = (coF (opV c) q.2.1.1 q.2.1.2).1.length + 1 := by rw [g3, i32_id (by omega) (by omega)]
                have e3 : i32 (T' 0 3 + 1) = s + 1 := by rw [g1, ha]; exact i32_id (by omega) (by omega)
                generalize hV : up (up (up T' 6 (T' 0 17) v) 0 17 (i32 (T' 0 17 + 1))) 0 3 (i32 (T' 0 3 + 1)) = V
                have hFV : Fr [5, 6] [(0, 3), (0, 4), (0, 15), (0, 17)] S V := by rw [← hV]; exact ((hFS.up _ _ _ rfl).up _ _ _ rfl).up _ _ _ rfl
                have go := seeU _ V c x3 (by dsimp only; omega) ⟨by dsimp only; omega, by dsimp only; omega, by dsimp only; rw [List.length_cons]; push_cast; omega, ?_, fun w hw => ?_, ?_⟩ hFV (by rw [← hV, up_n _ _ _ (by decide), up_n _ _ _ (by decide), up_o _ _ _ (by decide), g2, hw]) (by rw [← hV, up_s, e3]) ⟨?_, ?_, ?_, ?_⟩ hr
                · refine sound ok_M_wrongPlan [22] 60 ?_
                  refine ⟨b1, ?_⟩
                  rw [← hV] at go
                  exact go
                · dsimp only
                  rw [c3, coF_c3 _ (opV_v c), if_neg (by have := opV_v c; omega)]
                  omega
                · rcases List.mem_cons.mp hw with z | z
                  · have := opV_v c; omega
                  · exact hmem w (coF_mem _ _ _ _ z)
                · dsimp only
                  split
                  · rw [List.length_cons]; push_cast; omega
                  · omega
                · rw [← hV, up_n _ _ _ (by decide), up_s, e1]; simp
                · rw [← hV, up_n _ _ _ (by decide), up_n _ _ _ (by decide), up_o _ _ _ (by decide), g4]
                · rw [← hV, up_o _ _ _ (by decide), up_o _ _ _ (by decide), up_c, g3, hv]
                  exact plA_push g5 (opV c)
                · rw [← hV, up_o _ _ _ (by decide), up_o _ _ _ (by decide), up_o _ _ _ (by decide)]; exact g6
              rcases hcc with hcc | hcc
              · subst hcc
                refine sound ok_M_wrongPlan [290] 60 ?_
                refine ⟨fun z => absurd rfl z, fun _ => ?_⟩
                refine main _ (fun T' h => ?_)
                exact ⟨fun z => absurd rfl z, fun _ => h (-1) rfl⟩
              · subst hcc
                refine sound ok_M_wrongPlan [290] 60 ?_
                refine ⟨fun _ => ?_, fun z => absurd z (by decide)⟩
                refine main _ (fun T' h => ?_)
                exact ⟨fun _ => h (-2) rfl, fun z => absurd z (by decide)⟩
            refine ⟨fun g => op (Or.inl g), fun g38 => ?_⟩
            refine ⟨fun g => op (Or.inr g), fun g124 => ?_⟩
            rw [if_neg (fun z => z.elim g38 g124)] at hr
            have hq := bad s q T hF hr (by omega)
            rw [← ha] at hq
            exact hq
          · rw [if_pos g1] at hr
            refine ⟨fun g => ?_, fun g => ?_⟩
            · rw [if_neg (by omega)] at hr
              refine t_M_comesOut (-2) _ q.2.1.1 q.2.1.2 T m1 m2 m3 m4 hl160 (fun T' hF' g1 g2 g3 g4 g5 g6 => ?_)
              have hq := hQ T' (hF.tr hF') (fun _ => by rw [← hr]; exact ⟨g3, g4, g5, g6⟩)
              rw [← hr] at hq
              exact hq
            · rw [if_pos g] at hr
              have hq := bad n q T hF hr hn.1
              rw [← q2 T hF] at hq
              exact hq
        refine sound ok_M_wrongPlan [229, 182] 100 ?_
        refine ⟨fun g => rest (fun z => g z.1), fun g41 => ?_⟩
        refine ⟨fun g => rest (fun z => absurd z.2 (by omega)), fun g0 => ?_⟩
        rw [if_pos ⟨g41, g0⟩] at hr
        obtain ⟨hsn, hts⟩ := hc (by omega)
        refine t_M_comesOut (-2) _ q.2.1.1 q.2.1.2 T m1 m2 m3 m4 hl160 (fun T' hF' g1 g2 g3 g4 g5 g6 => ?_)
        have hlen2 := coF_len (-2) q.2.1.1 q.2.1.2
        have hc3b := coF_c3 (-2) (Or.inr rfl) q.2.1.1 q.2.1.2
        have hmem2 := coF_mem (-2) q.2.1.1 q.2.1.2
        obtain ⟨r, hr3⟩ := coF_top q.2.1.1 q.2.1.2 hmem (by omega)
        generalize coF (-2) q.2.1.1 q.2.1.2 = co at *
        rw [hr3] at g3 g5 hlen2 hc3b hmem2 hr
        rw [c3, if_pos rfl] at hc3b
        rw [List.tail_cons] at hr
        rw [List.length_cons] at g3 hlen2
        have hFS := hF.tr hF'
        have e1 : i32 (T' 0 17 - 1) = r.length := by rw [g3, i32_id (by omega) (by omega)]; omega
        have e3 : i32 (T' 0 3 + 1) = s + 1 := by rw [g1, ha]; exact i32_id (by omega) (by omega)
        generalize hV : up (up T' 0 17 (i32 (T' 0 17 - 1))) 0 3 (i32 (T' 0 3 + 1)) = V
        have hFV : Fr [5, 6] [(0, 3), (0, 4), (0, 15), (0, 17)] S V := by rw [← hV]; exact (hFS.up _ _ _ rfl).up _ _ _ rfl
        have v3 : V 0 3 = s + 1 := by rw [← hV, up_s, e3]
        have go := ihB _ (up V 0 3 (sk t n (s + 1))) x3 (by dsimp only; omega) ⟨by dsimp only; omega, by dsimp only; omega, by dsimp only; omega, by dsimp only; omega, fun w hw => hmem w (hmem2 w (List.mem_cons_of_mem _ hw)), by dsimp only; rw [List.length_cons]; push_cast; omega⟩ (hFV.up _ _ _ rfl) (by rw [up_n _ _ _ (by decide), ← hV, up_n _ _ _ (by decide), up_n _ _ _ (by decide), g2, hw]) (up_s _ _ _ _) ⟨?_, ?_, ?_, ?_⟩ hr
        · have go2 : ∀ Q' : Option AV → St → Prop, Q' (some (.inl (ch t n (sk t n (s + 1))))) (up V 0 3 (sk t n (s + 1))) → Smm H_M_sees 0 [some (.inr (.inr 0))] [] V Q' := by
            intro Q' hq'
            refine t_M_sees V Q' (by rw [v3]; omega) (by rw [q2 V hFV]; exact hn.2) ?_
            rw [q1 V hFV, q2 V hFV, v3]
            exact hq'
          have e5 : i32 (q.1.2 + -1) = q.1.2 - 1 := i32_id (by omega) (by omega)
          rw [← hV] at go2 go
          refine go2 _ ?_
          exact Smm.sub go ⟨Or.inr rfl, Or.inr (sI e5.symm), Or.inr rfl, Or.inr rfl, trivial⟩
        · rw [up_n _ _ _ (by decide), ← hV, up_n _ _ _ (by decide), up_s, e1]
        · rw [up_n _ _ _ (by decide), ← hV, up_n _ _ _ (by decide), up_n _ _ _ (by decide), g4]
        · rw [up_o _ _ _ (by decide), ← hV, up_o _ _ _ (by decide), up_o _ _ _ (by decide)]; exact (plA_pop g5).1
        · rw [up_o _ _ _ (by decide), ← hV, up_o _ _ _ (by decide), up_o _ _ _ (by decide)]; exact g6
  have k0 := (key (n + 1).toNat).1 q0
  generalize hV : up (up (up (up S 0 3 0) 0 4 (-1)) 0 15 0) 0 17 0 = V
  have hFV : Fr [5, 6] [(0, 3), (0, 4), (0, 15), (0, 17)] S V := by rw [← hV]; exact ((((Fr.rf _ _ S).up _ _ _ rfl).up _ _ _ rfl).up _ _ _ rfl).up _ _ _ rfl
  have v3 : V 0 3 = 0 := by rw [← hV]; simp [upr]
  have v4 : V 0 4 = -1 := by rw [← hV]; simp [upr]
  have v15 : V 0 15 = 0 := by rw [← hV]; simp [upr]
  have v17 : V 0 17 = 0 := by rw [← hV]; simp [upr]
  have go := k0 (up V 0 3 (sk t n 0)) none (by show n - 0 < _; omega) ⟨⟨Int.le_refl _, hn.1⟩, ⟨Int.le_refl _, by decide⟩, Int.le_refl _, rfl, fun w hw => absurd hw (by simp [q0]), Int.le_refl _⟩ (hFV.up _ _ _ rfl) (by rw [up_n _ _ _ (by decide)]; exact v4) (up_s _ _ _ _) ⟨by rw [up_n _ _ _ (by decide)]; exact v17, by rw [up_n _ _ _ (by decide)]; exact v15, plA_nil _, plA_nil _⟩ rfl
  have go2 : ∀ Q' : Option AV → St → Prop, Q' (some (.inl (ch t n (sk t n 0)))) (up V 0 3 (sk t n 0)) → Smm H_M_sees 0 [some (.inr (.inr 0))] [] V Q' := by
    intro Q' hq'
    refine t_M_sees V Q' (by rw [v3]; exact Int.le_refl _) (by rw [q2 V hFV]; exact hn.2) ?_
    rw [q1 V hFV, q2 V hFV, v3]
    exact hq'
  rw [← hV] at go go2
  refine sound ok_M_wrongPlan [27] 60 ?_
  refine go2 _ ?_
  exact go
