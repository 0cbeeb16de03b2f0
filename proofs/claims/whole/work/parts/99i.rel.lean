/-! what is asked hangs on the land's numbers in their ranges alone -/
def SmR (T U : St) : Prop := (U 0 19 = T 0 19 ∧ U 0 20 = T 0 20 ∧ U 0 21 = T 0 21 ∧ U 0 22 = T 0 22 ∧ U 0 38 = T 0 38) ∧ (U 12 = T 12 ∧ U 13 = T 13 ∧ ∀ p, 0 ≤ p → p < T 0 31 → U 16 p = T 16 p ∧ ∀ i : Nat, (i : Int) < T 16 p → U 15 (160 * p + i) = T 15 (160 * p + i)) ∧ (∀ s, 0 ≤ s → s < T 0 20 → U 17 s = T 17 s ∧ U 18 s = T 18 s) ∧ (∀ j, 0 ≤ j → j < 20 → U 19 j = T 19 j) ∧ ∀ g, 0 ≤ g → g < 4 → U 20 g = T 20 g
theorem SmR.wy {T U : St} (h : SmR T U) : wyM U = wyM T := by
  unfold wyM
  rw [h.1.2.1]
  exact wy_congr _ (fun i hi => (h.2.2.1 i (by omega) (by omega)).2)
theorem snF_R {beh snd ap al ap' al' : Int → Int} {gone : Int} {off : Int → Int} : ∀ k : Nat, (∀ i : Nat, i < k → ap' i = ap i ∧ -1 ≤ beh i ∧ beh i < i ∧ 0 ≤ snd i ∧ snd i ≤ 3) → k ≤ 5 → (∀ j, 0 ≤ j → j < 20 → al' j = al j) → snF beh snd ap' al' gone off k = snF beh snd ap al gone off k
  | 0, _, _, _ => rfl
  | k + 1, h, hk, hl => by
    have ih := snF_R (beh := beh) (snd := snd) (gone := gone) (off := off) k (fun i hi => h i (by omega)) (by omega) hl
    obtain ⟨h1, h2, h3, h4, h5⟩ := h k (by omega)
    have e : sgb beh snd al' (snF beh snd ap al gone off k) k = sgb beh snd al (snF beh snd ap al gone off k) k := by
      unfold sgb
      split
      · rfl
      · unfold hdM
        rw [hl (5 * snd k + beh k) (by omega) (by omega)]
    rw [snF, snF, ih]
    unfold sgv
    rw [e, h1]
theorem pkR_c {code code' hear : Int → Int} : ∀ m : Nat, (∀ i : Nat, i < m → code' i = code i) → pkR code' hear m = pkR code hear m
  | 0, _ => rfl
  | m + 1, h => by rw [pkR, pkR, h m (by omega), pkR_c m (fun i hi => h i (by omega))]
theorem SmR.sm {T U : St} (h : SmR T U) (hT : mOk T) : smM U = smM T := by
  funext f
  obtain ⟨⟨a1, a2, a3, a4, a5⟩, ⟨b1, b2, b3⟩, c1, c2, c3⟩ := h
  have hn := hT.1.1
  have hs := hT.1.2.1
  unfold smM
  rw [a2, a5, b1, b2]
  refine snF_R _ (fun i hi => ?_) (by omega) c2
  have q := hs i (by omega) (by omega)
  exact ⟨(c1 i (by omega) (by omega)).1, q.1, q.2.1, q.2.2.1, q.2.2.2.1⟩
theorem SmR.tn {T U : St} (h : SmR T U) (hT : mOk T) {f : Int → Int} {g : Int} (hg : 0 ≤ g ∧ g < 4) : tnM U f g = tnM T f g := by
  obtain ⟨⟨a1, a2, a3, a4, a5⟩, ⟨b1, b2, b3⟩, c1, c2, c3⟩ := h
  unfold tnM
  rw [c3 g hg.1 hg.2, a2]
  by_cases z : T 20 g < 0
  · rw [if_pos z, if_pos z]
  · rw [if_neg z, if_neg z]
    have hp := hT.2.2.1 g hg.1 hg.2
    obtain ⟨m, hm, hc⟩ := hT.2.2.2.2 (T 20 g) (by omega) hp.2
    obtain ⟨d1, d2⟩ := b3 (T 20 g) (by omega) hp.2
    rw [d1, hm]
    have e : plV (fun i => T 15 (160 * T 20 g + i)) m (hrF (T 0 20) (U 19) f g) = plV (fun i => T 15 (160 * T 20 g + i)) m (hrF (T 0 20) (T 19) f g) := plV_congr hc (fun s s0 s1 => by
      unfold hrF hdM
      rw [c2 (5 * g + s) (by omega) (by omega)])
    rw [show ((m : Int)).toNat = m from rfl, ← e]
    unfold plV
    rw [pkR_c (code := fun i => T 15 (160 * T 20 g + i)) m (fun i hi => d2 i (by omega))]
theorem SmR.tv {T U : St} (h : SmR T U) (hT : mOk T) {g : Int} (hg : 0 ≤ g ∧ g < 4) : tnV U g = tnV T g := by
  funext f
  show tnM U (smM U f) g = tnM T (smM T f) g
  rw [h.sm hT, h.tn hT hg]
theorem SmR.ap {T U : St} (h : SmR T U) (hT : mOk T) : apM U = apM T := by
  funext f
  have hk := hT.2.1
  unfold apM
  rw [h.1.1, h.1.2.2.1, h.sm hT]
  exact apF_congr (fun j j0 j1 => h.tn hT (by omega))
theorem SmR.op {T U : St} (h : SmR T U) (hT : mOk T) : opM U = opM T := by
  funext f
  unfold opM
  rw [h.ap hT, h.1.2.2.2.1]
theorem SmR.og {T U : St} (h : SmR T U) (hT : mOk T) : ogM U = ogM T := by
  funext f
  have hk := hT.2.1
  unfold ogM
  rw [h.1.1, h.1.2.2.1, h.1.2.2.2.1, h.sm hT]
  exact ogF_congr (fun j j0 j1 => h.tn hT (by omega))
theorem SmR.fs {T U : St} (h : SmR T U) (hT : mOk T) : fsM U = fsM T := by
  funext f
  have hk := hT.2.1
  unfold fsM
  rw [h.1.1, h.sm hT]
  exact ftF_congr _ (fun j j0 j1 => h.tn hT (by omega))
theorem SmR.oq {T U : St} (h : SmR T U) (hT : mOk T) (f : Int → Int) (set : Nat) : opS U f set = opS T f set := by
  have hk := hT.2.1
  unfold opS
  rw [h.1.1, h.1.2.2.1, h.1.2.2.2.1, h.sm hT]
  rw [apF_congr (t := msk (tnM U (smM T f)) set) (t' := msk (tnM T (smM T f)) set) (fun j j0 j1 => by unfold msk; rw [h.tn hT (g := j) (by omega)])]
theorem SmR.sv {T U S : St} (h : SmR T U) (hT : mOk T) {w : Int} {l : List (Int → Int)} (k : svP T w l S) : svP U w l S := by
  have hk := hT.2.1
  have e : ogV U = ogV T := by funext f; unfold ogV; rw [h.og hT]
  unfold svP at k ⊢
  rw [h.op hT, h.ap hT, h.og hT, h.fs hT, e, h.1.1]
  refine ⟨k.1, fun g g0 g1 => ?_⟩
  rw [h.tv hT (g := g) (by omega)]
  exact k.2 g g0 g1
theorem SmR.pq {T U : St} (h : SmR T U) (hT : mOk T) (w : Nat) (l : List (Int → Int)) (j : Nat) : pS U w l j = pS T w l j := by
  unfold pS
  rw [show (fun f => opS U f j) = (fun f => opS T f j) from funext (fun f => h.oq hT f j)]
theorem SmR.t2 {T U : St} (h : SmR T U) (hT : mOk T) (f : Int → Int) {one other a b : Int} (h1 : 0 ≤ one ∧ one < 4) (h2 : 0 ≤ other ∧ other < 4) (ha : 0 ≤ a ∧ a < 10 * T 0 20) (hb : 0 ≤ b ∧ b < 10 * T 0 20) : op2 U f one other a b = op2 T f one other a b ∧ ft2 U f one other a b = ft2 T f one other a b := by
  have hk := hT.2.1
  have hn := hT.1.1
  have vs : ∀ g c, (0 ≤ g ∧ g < 4) → (0 ≤ c ∧ c < 10 * T 0 20) → vsM U f g c = vsM T f g c := fun g c hg hc => by
    unfold vsM
    rw [h.sm hT]
    unfold hdM
    rw [h.2.2.2.1 (5 * g + c / 10) (by omega) (by omega)]
  have t : ∀ j : Int, 0 ≤ j → j < 4 → t2M U f one other a b j = t2M T f one other a b j := fun j j0 j1 => by
    unfold t2M
    rw [vs one a h1 ha, vs other b h2 hb, h.sm hT]
    unfold uf
    rw [h.tn hT (g := j) ⟨j0, j1⟩]
  unfold op2 ft2
  rw [h.1.1, h.1.2.2.1, h.1.2.2.2.1, apF_congr (t := t2M U f one other a b) (t' := t2M T f one other a b) (fun j j0 j1 => t j j0 (by omega)), ftF_congr (t := t2M U f one other a b) (t' := t2M T f one other a b) _ (fun j j0 j1 => t j j0 (by omega))]
  exact ⟨rfl, rfl⟩
theorem SmR.w2 {T U : St} (h : SmR T U) (hT : mOk T) {one other j : Int} (h1 : 0 ≤ one ∧ one < 4) (h2 : 0 ≤ other ∧ other < 4) (hj : 0 ≤ j) : wP U one other j = wP T one other j ∧ ∀ g, wF U one other g j = wF T one other g j := by
  have key : ∀ f, (j / 50 < 10 * T 0 20 ∧ j % 50 < 10 * T 0 20) → op2 U f one other (j / 50) (j % 50) = op2 T f one other (j / 50) (j % 50) ∧ ft2 U f one other (j / 50) (j % 50) = ft2 T f one other (j / 50) (j % 50) := fun f z => h.t2 hT f h1 h2 (by omega) (by omega)
  refine ⟨?_, fun g => ?_⟩
  · funext f
    unfold wP
    rw [h.1.2.1]
    by_cases z : j / 50 < 10 * T 0 20 ∧ j % 50 < 10 * T 0 20
    · rw [if_pos z, if_pos z, (key f z).1]
    · rw [if_neg z, if_neg z]
  · funext f
    unfold wF
    rw [h.1.2.1]
    by_cases z : j / 50 < 10 * T 0 20 ∧ j % 50 < 10 * T 0 20
    · rw [if_pos z, if_pos z, (key f z).1, (key f z).2]
    · rw [if_neg z, if_neg z]
theorem SmR.dq {T U S : St} (h : SmR T U) (hT : mOk T) {one other w : Int} {l : List (Int → Int)} (h1 : 0 ≤ one ∧ one < 4) (h2 : 0 ≤ other ∧ other < 4) (k : dI T one other w l S) : dI U one other w l S := fun j j0 j1 => by
  have e := h.w2 hT h1 h2 j0
  rw [e.1, e.2 one, e.2 other]
  exact k j j0 j1
/-! the relation between the reference and the class -/
/-- the reference within its bounds -/
def scK (gd sg sc : Int) (row : Int → Int) : Prop := (0 ≤ sc ∧ sc ≤ 10) ∧ ∀ k, 0 ≤ k → k < sc → (0 ≤ row (3 * k) ∧ row (3 * k) < gd) ∧ (-1 ≤ row (3 * k + 1) ∧ row (3 * k + 1) < sg) ∧ -99 ≤ row (3 * k + 2) ∧ row (3 * k + 2) ≤ 199
def ntK (gd ni : Int) (nt : Int → Int) : Prop := (0 ≤ ni ∧ ni ≤ 40) ∧ ∀ n g, 0 ≤ n → n < ni → 0 ≤ g → g < gd → nt (4 * n + g) ≤ 1000000
def rI (S : St) : Prop := (¬ S 0 18 = 0 → ldM S) ∧ (S 0 18 = 0 → S 0 19 = 0 ∧ S 0 20 = 0 ∧ S 0 21 = 0 ∧ S 0 22 = 0 ∧ S 0 49 = 0 ∧ S 0 52 = 0 ∧ S 0 56 = 0) ∧ plM S ∧ tpM S ∧ scK (S 0 19) (S 0 20) (S 0 49) (S 30) ∧ ntK (S 0 19) (S 0 52) (S 32) ∧ (¬ S 0 56 = 0 → (∀ g, 0 ≤ g → g < 4 → -1 ≤ S 35 g ∧ S 35 g < S 0 31) ∧ scK (S 0 19) (S 0 20) (S 0 58) (S 36) ∧ ntK (S 0 19) (S 0 57) (S 37))
/-- a book of the class is what the reference keeps -/
def bkI (b bp bg bs bt bu bo ba : Nat) (gd sc ni dr : Int) (pl sr nt no nd : Int → Int) (S : St) : Prop := (∀ g, 0 ≤ g → g < 4 → S bp g = pl g) ∧ (S b 1 = sc ∧ ∀ i, 0 ≤ i → i < sc → S bg i = sr (3 * i) ∧ S bs i = sr (3 * i + 1) ∧ S bt i = sr (3 * i + 2)) ∧ (S b 5 = ni ∧ ∀ n, 0 ≤ n → n < ni → (∀ g, 0 ≤ g → g < gd → S bu (4 * n + g) = nt (4 * n + g)) ∧ (S bo n = if no n = 0 then 0 else 1) ∧ S ba n = nd n) ∧ S b 9 = dr
def bkX (R S : St) : Prop := bkI 79 80 81 82 83 84 85 86 (R 0 19) (R 0 49) (R 0 52) (R 0 51) (R 9) (R 30) (R 32) (R 33) (R 34) S
def kpX (R S : St) : Prop := bkI 87 88 89 90 91 92 93 94 (R 0 19) (R 0 58) (R 0 57) (R 0 59) (R 35) (R 36) (R 37) (R 38) (R 39) S
/-- the land told -/
def ldX (R S : St) : Prop := (S 63 0 = R 0 19 ∧ S 63 1 = R 0 20) ∧ (¬ R 0 18 = 0 → (S 63 4 = R 0 21 ∧ S 63 5 = R 0 22 ∧ S 63 7 = 0) ∧ (∀ s, 0 ≤ s → s < R 0 20 → S 66 s = R 10 s ∧ S 67 s = R 11 s ∧ S 68 s = R 12 s ∧ S 69 s = R 13 s) ∧ (∀ j, 0 ≤ j → j < 20 → S 70 j = dl (R 14 j)) ∧ ∀ g, 0 ≤ g → g < R 0 19 → S 64 g = R 7 g ∧ S 65 g = R 8 g)
def tpR (R S : St) : Prop := S 43 1 = R 0 2 ∧ S 44 = R 1
/-- what has been found stands -/
def caX (R S : St) : Prop := (S 106 0 = 0 ∨ (S 106 0 = 1 ∧ ¬ R 0 18 = 0 ∧ svP (tl R) 1 (wyM (tl R)) S)) ∧ (S 106 1 = 0 ∨ (S 106 1 = 1 ∧ ¬ R 0 18 = 0 ∧ BtI (S 106 13) (pS (tl R) (R 0 19).toNat (wyM (tl R))))) ∧ (S 117 0 = 0 ∨ (S 117 0 = 1 ∧ ¬ R 0 18 = 0 ∧ (0 ≤ S 117 1 ∧ S 117 1 < R 0 19) ∧ (0 ≤ S 117 2 ∧ S 117 2 < R 0 19) ∧ S 117 10 = 10 * R 0 20 ∧ dI (tl R) (S 117 1) (S 117 2) 1 (wyM (tl R)) S))
def RelB (R S : St) : Prop := rI R ∧ tpR R S ∧ ldX R S ∧ PlR R S ∧ bkX R S ∧ (S 40 10 = R 0 56 ∧ (¬ R 0 56 = 0 → kpX R S))
def Rel (R S : St) : Prop := RelB R S ∧ caX R S
