-- the reference: expressions
def jR (o : Option Nat) : Int32 := match o with
  | none => m1
  | some v => nI (opC v)
theorem v_joint {B : Nat → Nat} {n h : Nat} {T : List Tok} {M : Mm} (N : Nat) (K : RQ B n T h M) : D_X12_joint N 137 M = some (jR (opAt T h)) := by
  have w6 : wC 6 = 13368 := rfl
  have w7 : wC 7 = 13614 := rfl
  unfold D_X12_joint opAt
  simp only [r_isWord N K (show 6 < 9 by omega), r_isWord N K (show 7 < 9 by omega), r_isSign N K (show 43 < 256 by omega), r_isSign N K (show 45 < 256 by omega), r_isSign N K (show 42 < 256 by omega), r_isSign N K (show 124 < 256 by omega), r_isSign N K (show 38 < 256 by omega), r_isSign N K (show 60 < 256 by omega), Option.bind_some, jn, bI_0, w6, w7, decide_eq_false_iff_not]
  by_cases k1 : (tk T h).1 = 1
  · have k3 : ∀ c, ¬ isSn T h c := fun c q => by have := q.1; omega
    simp only [k3, not_false_eq_true, if_true]
    rw [if_pos k1]
    by_cases a : (tk T h).2.2.2 = 13368
    · rw [if_neg (fun q => q ⟨k1, a⟩), if_pos a]; rfl
    · rw [if_pos (fun q => a q.2), if_neg a]
      by_cases b : (tk T h).2.2.2 = 13614
      · rw [if_neg (fun q => q ⟨k1, b⟩), if_pos b]; rfl
      · rw [if_pos (fun q => b q.2), if_neg b]; rfl
  · have kw : ∀ c, ¬ isWd T h c := fun c q => k1 q.1
    rw [if_pos (kw _), if_pos (kw _), if_neg k1]
    by_cases k3 : (tk T h).1 = 3
    · have hv := (K.t.1.g K.h).2.2.2.2 k3
      have e15 := K.2.2.2.2.2.2.2.2 k3
      rw [if_pos k3, e15]
      have es : ∀ c, isSn T h c ↔ (tk T h).2.2.2 = c := fun c => ⟨fun q => q.2, fun q => ⟨k3, q⟩⟩
      simp only [es]
      generalize (tk T h).2.2.2 = v
      by_cases a1 : v = 43
      · subst a1; rfl
      by_cases a2 : v = 45
      · subst a2; rfl
      by_cases a3 : v = 42
      · subst a3; rfl
      by_cases a4 : v = 124
      · subst a4; rfl
      by_cases a5 : v = 38
      · subst a5; rfl
      by_cases a6 : v = 60
      · subst a6; rfl
      simp only [a1, a2, a3, a4, a5, a6, not_false_eq_true, if_true, if_false]; rfl
    · have kn : ∀ c, ¬ isSn T h c := fun c q => k3 q.1
      simp only [kn, not_false_eq_true, if_true]
      rw [if_neg k3]; rfl
/-- from a start on -/
def QI (B : Nat → Nat) (n : Nat) (T : List Tok) (hs : Nat) (Gs : Gr) (h : Nat) (G : Gr) (M : Mm) : Prop := QE B n T h G M ∧ DP T hs Gs (h, G)
def RRr (B : Nat → Nat) (n : Nat) (T : List Tok) (rcS : Nat → Gr → RS) (rc : Int32 → Mm → Option (Int32 × Mm)) : Prop := ∀ h G M, EI T h G → G.pa ≤ 24 → 1 ≤ h → QE B n T h G M → RV (QE B n T) M (rcS h G) (rc (nI G.cp) M)
theorem QI.e {B : Nat → Nat} {n hs h : Nat} {T : List Tok} {Gs G : Gr} {M : Mm} (hI : EI T hs Gs) (q : QI B n T hs Gs h G M) : EI T h G ∧ G.pa ≤ 24 ∧ hs ≤ h ∧ G.cp = Gs.cp := ⟨hI.go q.2.1, q.2.2, q.2.1.2.2.1, q.2.1.1.2.2.2.2.1⟩
theorem RRr.i {B : Nat → Nat} {n hs h : Nat} {T : List Tok} {Gs G : Gr} {M : Mm} {rcS : Nat → Gr → RS} {rc : Int32 → Mm → Option (Int32 × Mm)} (hr : RRr B n T rcS rc) (hD : DR T rcS) (hI : EI T hs Gs) (h1 : 1 ≤ hs) (q : QI B n T hs Gs h G M) : RV (QI B n T hs Gs) M (rcS h G) (rc (nI Gs.cp) M) := by
  obtain ⟨a, b, c, d⟩ := q.e hI
  rw [← d]
  exact (hr h G M a b (by omega) q.1).w fun y M' hy hq => ⟨hq, q.2.trans (hD h G y a.2.2.1 b hy)⟩
theorem v_eatsI {B : Nat → Nat} {n hs h c : Nat} {T : List Tok} {Gs G : Gr} {M : Mm} (N : Nat) (hN : 2000 < N) (hc : c < 256) (hI : EI T hs Gs) (q : QI B n T hs Gs h G M) : RV (QI B n T hs Gs) M (pSign T c h G) (D_X12_eats N 137 (nI c) M) := by
  obtain ⟨a, b, _, d⟩ := q.e hI
  refine (v_eats N hN hc q.1.1).w fun y M' hy hq => ⟨?_, q.2.trans (pSign_D a.2.2.1 b hy)⟩
  obtain ⟨ey, _⟩ := pSign_r hy
  subst ey
  exact q.1.next Se.refl ⟨fun _ _ => rfl, fun _ _ => rfl⟩ hq.1 ((hq.2.2.2.1 20 (by omega)).trans q.1.2.1) ((hq.2.2.2.1 21 (by omega)).trans q.1.2.2.1) ⟨a.2.2.2.2.1, a.2.2.2.2.2⟩
theorem QE.go {B : Nat → Nat} {n h : Nat} {T : List Tok} {G : Gr} {M : Mm} (N : Nat) (hN : 2000 < N) (hI : EI T h G) (q : QE B n T h G M) : ∃ M', D_X12_go N 137 M = some M' ∧ QE B n T (adv T h) G M' ∧ FX PR M M' := by
  obtain ⟨M', a, b, c, u⟩ := q.1.go N hN
  exact ⟨M', a, q.next Se.refl ⟨fun _ _ => rfl, fun _ _ => rfl⟩ b ((u.2.2.1 20 (by omega)).trans q.2.1) ((u.2.2.1 21 (by omega)).trans q.2.2.1) ⟨hI.2.2.2.2.1, hI.2.2.2.2.2⟩, c⟩
theorem v_opens {B : Nat → Nat} {n h d : Nat} {T : List Tok} {G : Gr} {M : Mm} (N : Nat) (hN : 2000 < N) (hd : d ≤ 6) (hI : EI T h G) (q : QE B n T h G M) : RV (QE B n T) M (if isSn T h 40 then (if d < 6 then .inr (adv T h, G) else fl T h 6) else fl T h 2) (D_X12_opens N 137 (nI d) M) := by
  unfold D_X12_opens
  rw [r_isSign N q.1.1 (by omega), Option.bind_some]
  by_cases e : isSn T h 40
  · rw [if_pos e, decide_eq_true e, bI_t, if_neg z10]
    have e6 : (nI d = nI 6) = (d = 6) := n_eq (by omega) (by omega)
    simp only [e6]
    by_cases e2 : d < 6
    · rw [if_pos e2, if_neg (by omega)]
      obtain ⟨M', a, b, c⟩ := q.go N hN hI
      exact ⟨M', by rw [a, Option.bind_some, retZ_1], b, c⟩
    · rw [if_neg e2, if_pos (by omega)]; exact v_bad N q.1.1
  · rw [if_neg e, decide_eq_false e, bI_f, if_pos rfl]; exact v_bad N q.1.1
theorem v_readPart {B : Nat → Nat} {n h d : Nat} {T : List Tok} {G : Gr} {M : Mm} {rcS : Nat → Gr → RS} {rc : Nat → Int32 → Int32 → Mm → Option (Int32 × Mm)} (N : Nat) (hN : 2000 < N) (hD : DR T rcS) (hrc : d < 6 → RRr B n T rcS (fun p M => rc 137 p (nI (d + 1)) M)) (hd : d ≤ 6) (q : QE B n T h G M) (hI : EI T h G) (ha : G.pa ≤ 24) (h1 : 1 ≤ h) : RV (QE B n T) M (pPart T rcS d h G) (D_X12_readPart N rc 137 (nI G.cp) (nI d) M) := by
  have hE := q.1.1.t.2.1
  have hh := hI.2.2.1
  unfold D_X12_readPart pPart
  simp only [q.1.1.isK (show 3 < 5 by omega), kR_2 q.1.1.k4]
  by_cases e2 : (tk T h).1 = 2
  · rw [if_pos e2, if_neg (fun q => by have := q.1; omega), if_neg (fun q => by have := q.1; omega)]
    unfold pLeaf
    rw [if_neg (fun q => by have := q.1; omega), if_pos e2]
    exact (v_readNumber N hN q hI ha e2).back
  · rw [if_neg e2, r_isWord N q.1.1 (show 5 < 9 by omega), Option.bind_some, show wC 5 = 15021 from rfl]
    by_cases e3 : isWd T h 15021
    · rw [decide_eq_true e3, bI_t, if_neg z10, if_neg (fun q => by have := q.1; have := e3.1; omega), if_neg (fun q => by have := q.2; have := e3.2; omega)]
      unfold pLeaf
      rw [if_pos e3]
      exact v_num N hN q hI ha e3
    · rw [decide_eq_false e3, bI_f, if_pos rfl, r_isWord N q.1.1 (show 8 < 9 by omega), Option.bind_some, show wC 8 = 294 from rfl]
      by_cases e4 : isWd T h 294
      · rw [decide_eq_true e4, bI_t, if_neg z10, if_neg (fun q => by have := q.1; have := e4.1; omega), if_pos e4]
        obtain ⟨M1, a1, Q1, p1⟩ := q.go N hN hI
        have I1 := hI.adv
        have hadv := hE.adv hh (show ¬ (tk T h).1 = 0 by have := e4.1; omega)
        rw [a1, Option.bind_some]
        refine RV.pre p1 ?_
        have r := v_opens (d := d) N hN hd hI.adv Q1
        unfold pBr
        by_cases e5 : isSn T (adv T h) 40
        · rw [if_pos e5] at r ⊢
          by_cases e6 : d < 6
          · rw [if_pos e6] at r ⊢
            obtain ⟨M2, a2, Q2, p2⟩ := r
            have I2 := I1.adv
            rw [a2, Option.bind_some, if_neg z10, show (3 : Nat) - 1 = 2 from rfl, bnd_assoc, pBr3]
            refine RV.pre p2 ?_
            have hS : QI B n T (adv T (adv T h)) G (adv T (adv T h)) G M2 := ⟨Q2, DE.refl I2.2.2.1, ha⟩
            have h1' : 1 ≤ adv T (adv T h) := Nat.le_trans h1 (Nat.le_trans adv_ge adv_ge)
            simp only [jn, nI_add]
            refine RV.bind ((hrc e6).i hD I2 h1' hS) (fun M' => by simp only [if_true, Option.bind_some, retZ_0]) (fun y3 M3 _ S3 => ?_)
            simp only [z10, if_false, Option.bind_assoc]
            refine RV.bind (v_eatsI N hN (by omega) I2 S3) (fun M' => by simp only [if_true, Option.bind_some, retZ_0]) (fun y4 M4 _ S4 => ?_)
            simp only [z10, if_false, Option.bind_assoc]
            refine RV.bind ((hrc e6).i hD I2 h1' S4) (fun M' => by simp only [if_true, Option.bind_some, retZ_0]) (fun y5 M5 _ S5 => ?_)
            simp only [z10, if_false, Option.bind_assoc]
            refine RV.bind (v_eatsI N hN (by omega) I2 S5) (fun M' => by simp only [if_true, Option.bind_some, retZ_0]) (fun y6 M6 _ S6 => ?_)
            simp only [z10, if_false, Option.bind_assoc]
            refine RV.bind ((hrc e6).i hD I2 h1' S6) (fun M' => by simp only [if_true, Option.bind_some, retZ_0]) (fun y7 M7 _ S7 => ?_)
            simp only [z10, if_false, Option.bind_assoc]
            refine RV.bind (v_eatsI N hN (by omega) I2 S7) (fun M' => by simp only [if_true, Option.bind_some, retZ_0]) (fun y8 M8 _ S8 => ?_)
            simp only [z10, if_false, Option.bind_some]
            obtain ⟨i1, i2, i3, i4⟩ := S8.e I2
            have hnc : y8.2.i 0 2 < 1000 := by
              have g1 : y8.2.i 0 2 + adv T (adv T h) ≤ G.i 0 2 + y8.1 := S8.2.1.2.1
              have g2 := hI.2.1
              have g3 : y8.1 < T.length := S8.2.1.2.2.2
              have g4 := hI.2.2.2.1
              have g5 := adv_ge (T := T) (h := adv T h)
              omega
            obtain ⟨M9, a9, K9, f9⟩ := v_codes (v := 40000) N S8.1.1 i1.1 i1.1.2.1 hnc (show cR 40000 = (3, 0) from rfl)
            rw [a9, Option.bind_some, retZ_1]
            refine ⟨M9, rfl, S8.1.next (gCod_S _ _) ⟨fun i _ => gCod_ak _ _ _, fun i _ => gCod_ab _ _ _⟩ K9 ?_ ?_ ⟨i1.2.2.2.2.1, i1.2.2.2.2.2⟩, f9.r⟩
            · rw [f9.o]; exact S8.1.2.1
            · rw [f9.o, gCod_ak]; exact S8.1.2.2.1
          · rw [if_neg e6] at r ⊢
            obtain ⟨M2, a2, b2, p2⟩ := r
            exact ⟨M2, by rw [a2, Option.bind_some, if_pos rfl, retZ_0], b2, p2⟩
        · rw [if_neg e5] at r ⊢
          obtain ⟨M2, a2, b2, p2⟩ := r
          exact ⟨M2, by rw [a2, Option.bind_some, if_pos rfl, retZ_0], b2, p2⟩
      · rw [decide_eq_false e4, bI_f, if_pos rfl, if_neg e4]
        have r := v_opens (d := d) N hN hd hI q
        simp only [jn, retZ_0]
        by_cases e5 : isSn T h 40
        · rw [if_pos e5] at r ⊢
          unfold pBr
          rw [if_pos e5]
          by_cases e6 : d < 6
          · rw [if_pos e6] at r ⊢
            obtain ⟨M2, a2, Q2, p2⟩ := r
            have I2 := hI.adv
            rw [a2, Option.bind_some, if_neg z10, show (1 : Nat) - 1 = 0 from rfl]
            refine RV.pre p2 ?_
            have hS : QI B n T (adv T h) G (adv T h) G M2 := ⟨Q2, DE.refl I2.2.2.1, ha⟩
            have h1' : 1 ≤ adv T h := Nat.le_trans h1 adv_ge
            show RV _ M2 (bnd (rcS (adv T h) G) _) _
            rw [nI_add]
            refine RV.bind ((hrc e6).i hD I2 h1' hS) (fun M' => by simp only [if_true]) (fun y3 M3 _ S3 => ?_)
            simp only [z10, if_false]
            have r2 := v_eatsI (c := 41) N hN (by omega) I2 S3
            cases e7 : pSign T 41 y3.1 y3.2 with
            | inl e => rw [e7] at r2; obtain ⟨M4, a4, b4, p4⟩ := r2; exact ⟨M4, by rw [a4, Option.bind_some, if_pos rfl], b4, p4⟩
            | inr y4 => rw [e7] at r2; obtain ⟨M4, a4, S4, p4⟩ := r2; exact ⟨M4, by rw [a4, Option.bind_some, if_neg z10, retZ_1], S4.1, p4⟩
          · rw [if_neg e6] at r ⊢
            obtain ⟨M2, a2, b2, p2⟩ := r
            exact ⟨M2, by rw [a2, Option.bind_some, if_pos rfl], b2, p2⟩
        · rw [if_neg e5] at r ⊢
          unfold pLeaf
          rw [if_neg e3, if_neg e2]
          obtain ⟨M2, a2, b2, p2⟩ := r
          exact ⟨M2, by rw [a2, Option.bind_some, if_pos rfl], b2, p2⟩
