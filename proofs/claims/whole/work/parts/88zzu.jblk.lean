/-! The class's judging: a block -/
section
variable {d : Nat} {h0 h : AH} {Q : Option V → AH → Prop} {T U a0 e0 J : Nat} {R : RV} {G : Nat → Nat → Nat} {nm : Nat} {fW : Nat → Nat} {nk : Nat} {par : Nat → Nat} {wk : Nat → Int64} {pk : Nat → Int32} {ns : Nat} {fS : Nat → Nat} {ks : List Nat} {B : Nat} {C L : Nat → Int32}
theorem jcl_split {b t : Nat} (h1 : t < G 3 t) (h2 : G 3 t ≤ G 5 b) (a : Nat) : List.count a (flr (jcl (pcl R C L) (wN R) nk nm (nsC R)) (G 5 b - t) t) = List.count a (jtS R C L G nk nm t ++ (jsB (pcl R C L) t ++ flr (jcl (pcl R C L) (wN R) nk nm (nsC R)) (G 5 b - G 3 t) (G 3 t))) := by
  have e : flr (jcl (pcl R C L) (wN R) nk nm (nsC R)) (G 5 b - t) t = (jcA (pcl R C L) (wN R) nk nm (nsC R) t ++ jsB (pcl R C L) t) ++ (flr (jcl (pcl R C L) (wN R) nk nm (nsC R)) (G 3 t - (t + 1)) (t + 1) ++ flr (jcl (pcl R C L) (wN R) nk nm (nsC R)) (G 5 b - G 3 t) (G 3 t)) := by
    rw [show G 5 b - t = (G 3 t - (t + 1) + (G 5 b - G 3 t)) + 1 by omega]
    show jcl (pcl R C L) (wN R) nk nm (nsC R) t ++ flr (jcl (pcl R C L) (wN R) nk nm (nsC R)) (G 3 t - (t + 1) + (G 5 b - G 3 t)) (t + 1) = _
    rw [flr_add, show t + 1 + (G 3 t - (t + 1)) = G 3 t by omega]
    rfl
  rw [e]
  unfold jtS
  simp only [List.count_append]
  omega
theorem JBS.hb (Bs : JBS h0 U a0 J R G nm fW) {b : Nat} (hb : wN R * 1024 ≤ b ∧ b < nbN R) : U + 10 ≤ G 1 b := by
  obtain ⟨-, ⟨-, -, a3, -⟩, hU, -⟩ := Bs
  have := (a3 b hb.1 hb.2).2.2.1
  omega
theorem b2i_dec (v : Bool) : (decide (b2i v = 0)) = !v := by cases v <;> decide
theorem b2i_nz (v : Bool) : b2i (decide (¬ b2i v = 0)) = b2i v := by cases v <;> decide
theorem jn_block (Bs : JBS h0 U a0 J R G nm fW) (K : KEQ R nk par) (eq : ∀ t, SRG R t → L t = b2i (lvS (pcl R C L) (wN R) (nsC R) t) ∧ C t = canS (pcl R C L) (wN R) nk nm (nsC R) t) : ∀ n b, RCH R G nm b → G 5 b - G 4 b < n → BKJ h0 T U e0 J R G nm fW nk par wk pk ns fS C L (3 * n + 8) b := by
  have TR := Bs.1
  have s2 := TR.2.2.2.2.1
  have s3 := TR.2.2.2.2.2
  intro n
  induction n with
  | zero => intro b r hn; omega
  | succ n ih =>
    intro b r hn d h ks B Q S un en H
    have rg := r.rg TR
    have hib := Bs.hb rg
    obtain ⟨WB, l1, l2⟩ := TR.2.2.1 b rg.1 rg.2
    obtain ⟨⟨b1, b2⟩, -, b4⟩ := Bs.bim S.2.2.2 rg
    rw [show d + (3 * (n + 1) + 8) = (d + (3 * n + 8) + 1 + 1) + 1 by omega]
    generalize eM : 3 * n + 8 = M at *
    -- this block is nobody's in it
    have notin : ∀ s, G 4 b ≤ s → s < G 5 b → ¬ b ∈ kids R s := fun s h1 h2 m => by
      have := (kid_in TR (t := s) ⟨by omega, by omega⟩ m).1; omega
    have wB : ∀ {h' : AH} {f v}, f = 202 ∨ f = 10203 → FX (EJP U e0 R G (inS (G 4 b) (G 5 b)) (kdB R G b)) h' (setFI h' f (G 1 b) v) := fun hf => FX.FI (Or.inr (Or.inr ⟨b, Or.inl rfl, rg, rfl, hf⟩))
    have wO : ∀ {h' : AH} {f v}, f = 202 ∨ f = 10203 → FX (EJP U e0 R G (fun _ => False) (fun c => c = b)) h' (setFI h' f (G 1 b) v) := fun hf => FX.FI (Or.inr (Or.inr ⟨b, rfl, rg, rfl, hf⟩))
    have sB : ∀ {h' ks' B' f v}, f = 202 ∨ f = 10203 → JST h0 T U e0 R G nm fW nk par wk pk ns fS h' ks' B' → JST h0 T U e0 R G nm fW nk par wk pk ns fS (setFI h' f (G 1 b) v) ks' B' := fun hf S' => S'.w Bs (FX.FI (Or.inl ⟨by omega, hib⟩)) rfl rfl
    rw [bk_X2_judgeBlock_0]
    refine ⟨fun _ => ?_, fun z => by cases z⟩
    rw [bk_X2_judgeBlock_3, nn_some, nn_some, nn_some]
    have f1 : fI (setFI (setFI h 202 (G 1 b) 0) 10203 (G 1 b) 1) 202 (G 1 b) = 0 := by
      rw [fI_setFI, if_neg (by omega), fI_setFI, if_pos ⟨rfl, rfl⟩]
    have f2 : fI (setFI (setFI h 202 (G 1 b) 0) 10203 (G 1 b) 1) 10203 (G 1 b) = 1 := if_pos ⟨rfl, rfl⟩
    have p1 : fP (setFI (setFI h 202 (G 1 b) 0) 10203 (G 1 b) 1) 30201 (G 1 b) = (oN (ai R 44 b)).map (G 0) := b4
    have S1 := sB (v := 1) (Or.inr rfl) (sB (v := 0) (Or.inl rfl) S)
    have x1 : FX (EJP U e0 R G (inS (G 4 b) (G 5 b)) (kdB R G b)) h (setFI (setFI h 202 (G 1 b) 0) 10203 (G 1 b) 1) := (wB (Or.inl rfl)).tr (wB (Or.inr rfl))
    have xo : FX (EJP U e0 R G (fun _ => False) (fun c => c = b)) h (setFI (setFI h 202 (G 1 b) 0) 10203 (G 1 b) 1) := (wO (Or.inl rfl)).tr (wO (Or.inr rfl))
    refine ⟨b1, b1, Or.inr rfl, b1, ?_⟩
    rw [p1]
    generalize setFI (setFI h 202 (G 1 b) 0) 10203 (G 1 b) 1 = h1 at *
    have un1 : ∀ s, G 4 b ≤ s → s < G 5 b → UNJ R G h1 s := fun s q1 q2 => by
      have hs : SRG R s := ⟨by omega, by omega⟩
      exact (un s q1 q2).fx Bs hs (Bs.sim S.2.2.2 hs).1.2 xo (fun z => z)
    have en1 := en.fx Bs l1 l2 S.2.2.2 xo (fun _ _ z => z)
    clear un en
    -- the statements
    have LP : ∀ f t (h1 : AH) ks1 (v : Bool) (acc : Int32) fu, G 5 b - t ≤ f → G 4 b ≤ t → t < G 5 b → ai R 21 t = nI b → JST h0 T U e0 R G nm fW nk par wk pk ns fS h1 ks1 (B + (lif (!v) (keyN (tn (ai R 20 t)) 7 0) ++ flr (jcl (pcl R C L) (wN R) nk nm (nsC R)) (G 5 b - t) t).length) → fI h1 202 (G 1 b) = acc → fI h1 10203 (G 1 b) = b2i v → G 5 b - t ≤ fu → chn (pcl R C L) fu (some t) acc = bcS (pcl R C L) (some b) → (∀ s, G 4 b ≤ s → s < t → JDS R C L G nm h1 s) → (∀ s, t ≤ s → s < G 5 b → UNJ R G h1 s) → ENC R C L G nk nm h1 (G 4 b) (G 5 b) → FX (EJP U e0 R G (inS (G 4 b) (G 5 b)) (kdB R G b)) h h1 → (∀ h' ks', JST h0 T U e0 R G nm fW nk par wk pk ns fS h' ks' B → CTK ks' (lif (!v) (keyN (tn (ai R 20 t)) 7 0) ++ flr (jcl (pcl R C L) (wN R) nk nm (nsC R)) (G 5 b - t) t) ks1 → (∀ s, G 4 b ≤ s → s < G 5 b → JDS R C L G nm h' s) → JDB R C L G h' b → FX (EJP U e0 R G (inS (G 4 b) (G 5 b)) (kdB R G b)) h h' → Q none h') → wp (d + M + 1 + 1 + 1) K_X2_judgeBlock 12 [] [(0, vr (some J)), (1, vr (some (G 1 b))), (2, vr (some (G 0 t)))] h1 Q := by
      intro f
      induction f with
      | zero => intro t h1 ks1 v acc fu q1 q2 q3; omega
      | succ f ihf =>
        intro t h1 ks1 v acc fu q1 q2 q3 e21 S1 a1 a2 hfu ec jd un en x1 H1
        have ht : SRG R t := ⟨by omega, by omega⟩
        obtain ⟨⟨w1, w2, w3, w4, w5, w6⟩, wkd⟩ := TR.2.1 t ht.1 ht.2
        obtain ⟨c1, c2, c3⟩ := WB.2.2.2.2 t q2 q3 e21
        obtain ⟨y1, y2, y3⟩ := plp_is w6.1
        have spl := jcl_split (C := C) (L := L) (nk := nk) (nm := nm) (R := R) w3 c1
        have lenS := (List.perm_iff_count.mpr spl).length_eq
        -- the statement
        have body : ∀ (h2 : AH) ks2, JST h0 T U e0 R G nm fW nk par wk pk ns fS h2 ks2 (B + (flr (jcl (pcl R C L) (wN R) nk nm (nsC R)) (G 5 b - t) t).length) → FX (ELs U e0) h1 h2 → (∀ h' ks', JST h0 T U e0 R G nm fW nk par wk pk ns fS h' ks' B → CTK ks' (flr (jcl (pcl R C L) (wN R) nk nm (nsC R)) (G 5 b - t) t) ks2 → (∀ s, G 4 b ≤ s → s < G 5 b → JDS R C L G nm h' s) → JDB R C L G h' b → FX (EJP U e0 R G (inS (G 4 b) (G 5 b)) (kdB R G b)) h h' → Q none h') → wp (d + M + 1 + 1 + 1) K_X2_judgeBlock 24 [] [(0, vr (some J)), (1, vr (some (G 1 b))), (2, vr (some (G 0 t)))] h2 Q := fun h2 ks2 S2 x2 H2 => by
          obtain ⟨j1, j2, j3, j4⟩ := Bs.jo S2.2.2.2
          have bl := (Bs.bim S1.2.2.2 rg).1.2
          have bl2 := (Bs.bim S2.2.2.2 rg).1
          have x2' : FX (EJP U e0 R G (fun _ => False) (fun _ => False)) h1 h2 := x2.mono EJP.ls
          have jd2 : ∀ s, G 4 b ≤ s → s < t → JDS R C L G nm h2 s := fun s z1 z2 => (jd s z1 z2).fx Bs ⟨by omega, by omega⟩ S1.2.2.2 x2' (fun z => z) (fun _ _ z => z)
          have un2 : ∀ s, t ≤ s → s < G 5 b → UNJ R G h2 s := fun s z1 z2 => by
            have hs : SRG R s := ⟨by omega, by omega⟩
            exact (un s z1 z2).fx Bs hs (Bs.sim S1.2.2.2 hs).1.2 x2' (fun z => z)
          have en2 := en.fx Bs l1 l2 S1.2.2.2 x2' (fun _ _ z => z)
          have a1' : fI h2 202 (G 1 b) = acc := by rw [x2.fI bl (els_no (by omega))]; exact a1
          have ent : ENC R C L G nk nm h2 t (G 3 t) := fun s c z1 z2 hp lt => en2 s c (by omega) (by omega) hp (enc_dir TR r q2 q3 e21 z1 z2 hp lt)
          rw [lenS, List.length_append, ← Nat.add_assoc, Nat.add_right_comm] at S2
          rw [bk_X2_judgeBlock_24]
          refine ⟨j1, jn_stmt Bs K eq ht r q2 q3 e21 (by omega) (by omega) (fun c m => ?_) S2 (fun s z1 z2 => un2 s z1 (by omega)) ent (fun h3 ks3 S3 k3 q3' x3 => ?_)⟩
          · have kd := kid_in TR ht m
            have := ih c (r.kid ht.1 ht.2 e21 q2 q3 m) (by omega)
            exact this
          simp only [psh]
          obtain ⟨⟨i1, i2⟩, -, -, -, -, -, -, -, -, -, -, -, nx, -⟩ := Bs.sim S3.2.2.2 ht
          have bl3 := (Bs.bim S3.2.2.2 rg).1
          have a3 : fI h3 202 (G 1 b) = acc := by
            rw [x3.fI bl2.2 (fun z => ?_)]
            · exact a1'
            · obtain ⟨s, s1, s2', s3', s4⟩ := EJP.bk Bs rg (by omega) z
              exact notin s (by omega) (by omega) s4
          have jt := q3' t (Nat.le_refl _) w3
          obtain ⟨v', ev'⟩ : ∃ v' : Bool, L t = b2i v' := ⟨_, (eq t ht).1⟩
          rw [bk_X2_judgeBlock_27, nn_some, nn_some, nn_some, nn_some, nn_some, nn_some, a3, jt.1.1]
          have g1 : fI (setFI h3 202 (G 1 b) (acc ||| C t)) 10815 (G 0 t) = L t := by rw [fI_setFI, if_neg (by omega)]; exact jt.1.2
          rw [g1]
          have S4 := sB (v := L t) (Or.inr rfl) (sB (v := acc ||| C t) (Or.inl rfl) S3)
          have xo : FX (EJP U e0 R G (fun _ => False) (fun c => c = b)) h3 (setFI (setFI h3 202 (G 1 b) (acc ||| C t)) 10203 (G 1 b) (L t)) := (wO (Or.inl rfl)).tr (wO (Or.inr rfl))
          have xb : FX (EJP U e0 R G (inS (G 4 b) (G 5 b)) (kdB R G b)) h3 (setFI (setFI h3 202 (G 1 b) (acc ||| C t)) 10203 (G 1 b) (L t)) := (wB (Or.inl rfl)).tr (wB (Or.inr rfl))
          have g2 : fI (setFI (setFI h3 202 (G 1 b) (acc ||| C t)) 10203 (G 1 b) (L t)) 202 (G 1 b) = acc ||| C t := by
            rw [fI_setFI, if_neg (by omega), fI_setFI, if_pos ⟨rfl, rfl⟩]
          have g3 : fI (setFI (setFI h3 202 (G 1 b) (acc ||| C t)) 10203 (G 1 b) (L t)) 10203 (G 1 b) = L t := if_pos ⟨rfl, rfl⟩
          have p4 : fP (setFI (setFI h3 202 (G 1 b) (acc ||| C t)) 10203 (G 1 b) (L t)) 30804 (G 0 t) = (oN (ai R 23 t)).map (G 0) := nx
          refine ⟨bl3.1, i1, bl3.1, i1, bl3.1, by rw [ev']; cases v' <;> decide, i1, ?_⟩
          rw [p4]
          generalize setFI (setFI h3 202 (G 1 b) (acc ||| C t)) 10203 (G 1 b) (L t) = h4 at *
          have x4 : FX (EJP U e0 R G (inS (G 4 b) (G 5 b)) (kdB R G b)) h h4 := x1.tr ((x2.mono EJP.ls).tr ((x3.mono (EJP.mono (fun s z => ⟨by have := z.1; omega, by have := z.2; omega⟩) (fun c z => by
            obtain ⟨s, z1, z2, z3, z4⟩ := z
            exact Or.inr ⟨s, by omega, by omega, z3, z4⟩))).tr xb))
          have jd4 : ∀ s, G 4 b ≤ s → s < G 3 t → JDS R C L G nm h4 s := fun s z1 z2 => by
            have hs : SRG R s := ⟨by omega, by omega⟩
            have : JDS R C L G nm h3 s := by
              by_cases y : t ≤ s
              · exact q3' s y z2
              · refine (jd2 s z1 (by omega)).fx Bs hs S2.2.2.2 x3 (fun z => by have := z.1; omega) (fun c m z => ?_)
                obtain ⟨s', z3, z4, z5, z6⟩ := z
                have := kid_own TR hs z5 m z6
                omega
            exact this.fx Bs hs S3.2.2.2 xo (fun z => z) (fun c m z => by rw [z] at m; exact notin s z1 (by omega) m)
          have un4 : ∀ s, G 3 t ≤ s → s < G 5 b → UNJ R G h4 s := fun s z1 z2 => by
            have hs : SRG R s := ⟨by omega, by omega⟩
            have := (un2 s (by omega) z2).fx Bs hs (Bs.sim S2.2.2.2 hs).1.2 x3 (fun z => by have := z.2; omega)
            exact this.fx Bs hs (Bs.sim S3.2.2.2 hs).1.2 xo (fun z => z)
          have en4 := (en2.fx Bs l1 l2 S2.2.2.2 x3 (fun o lo z => by have := z.1; omega)).fx Bs l1 l2 S3.2.2.2 xo (fun _ _ z => z)
          have ec' : ∃ fu', G 5 b - G 3 t ≤ fu' ∧ chn (pcl R C L) fu' (oN (ai R 23 t)) (acc ||| C t) = bcS (pcl R C L) (some b) := by
            obtain ⟨fu', rfl⟩ : ∃ e, fu = e + 1 := ⟨fu - 1, by omega⟩
            exact ⟨fu', by omega, ec⟩
          obtain ⟨fu', hfu', ec'⟩ := ec'
          by_cases y : G 3 t = G 5 b
          · rw [if_pos y] at c2
            rw [c2, oN_m1] at ec' ⊢
            show wp _ _ _ _ [(0, vr (some J)), (1, vr (some (G 1 b))), (2, vr none)] _ _
            rw [bk_X2_judgeBlock_12]
            refine ⟨fun _ => ?_, fun z => absurd rfl z⟩
            rw [bk_X2_judgeBlock_42]
            have ej : jsB (pcl R C L) t = [] := by
              unfold jsB
              rw [show ai (pcl R C L) 23 t = -1 from c2, oN_m1]
            rw [y, Nat.sub_self, ej] at S4
            refine H2 h4 ks3 S4 (fun a => ?_) (fun s z1 z2 => jd4 s z1 (by omega)) ⟨?_, ?_⟩ x4
            · rw [spl a, ej, y, Nat.sub_self]
              have := k3 a
              simp only [List.count_append, List.count_nil, show ∀ (g : Nat → List Nat) i, flr g 0 i = [] from fun _ _ => rfl]
              omega
            · rw [g2, ← ec']
              cases fu' <;> rfl
            · rw [g3]
              obtain ⟨-, -, e, e1, e2, e3, e4, e5⟩ := WB.2.2.2.1 (by omega)
              have et : e = t := by
                rcases Nat.lt_trichotomy e t with z | z | z
                · have := dir_next TR r e2 z q3 e5 e21; omega
                · exact z
                · have := dir_next TR r q2 z e3 e21 e5; omega
              show L t = b2i (match oN (ai R 45 b) with | none => true | some s => decide (¬ L s = 0))
              rw [e1, oN_nI (by omega), et]
              show L t = b2i (decide (¬ L t = 0))
              rw [ev', b2i_nz]
          · rw [if_neg y] at c2
            rw [c2, oN_nI (by omega)] at ec' ⊢
            have ej : jsB (pcl R C L) t = lif (!v') (keyN (tn (ai R 20 (G 3 t))) 7 0) := by
              unfold jsB
              rw [show ai (pcl R C L) 23 t = nI (G 3 t) from c2, oN_nI (by omega)]
              show lif (decide (L t = 0)) (keyN (tn (ai R 20 (G 3 t))) 7 0) = _
              rw [ev', b2i_dec]
            rw [ej] at S4
            refine ihf (G 3 t) h4 ks3 v' (acc ||| C t) fu' (by omega) (by omega) (by omega) (c3 (by omega)) S4 g2 (by rw [g3, ev']) hfu' ec' jd4 un4 en4 x4 (fun h5 ks5 S5 k5 z5 b5 x5 => H2 h5 ks5 S5 (fun a => ?_) z5 b5 x5)
            rw [spl a, ej]
            have i1 := k3 a
            have i2 := k5 a
            simp only [List.count_append] at i2 ⊢
            omega
        obtain ⟨j1, j2, j3, j4⟩ := Bs.jo S1.2.2.2
        have bl := (Bs.bim S1.2.2.2 rg).1
        rw [bk_X2_judgeBlock_12]
        refine ⟨fun z => (by cases z), fun _ => ?_⟩
        rw [bk_X2_judgeBlock_14, nn_some, a2, b2i_0]
        refine ⟨bl.1, fun z => ?_, fun z => ?_⟩
        · rw [bt z, Bool.not_true, lif_f, List.nil_append] at S1 H1
          exact body h1 ks1 S1 FX.rf H1
        · have z := Classical.not_not.mp z
          rw [z, Bool.not_false, lif_t] at S1 H1
          obtain ⟨⟨i1, i2⟩, ⟨-, i4, -⟩, -⟩ := Bs.sim S1.2.2.2 ht
          have ut : tg h1 U = 11 := S1.1.2.2.2.1
          rw [bk_X2_judgeBlock_17, nn_some, j3, nn_some, i4]
          refine ⟨j1, i1, ut, ?_⟩
          show wp _ _ _ _ [(0, vr (some U)), (1, vi (nI 7)), (2, vi (ai R 20 t)), (3, vi (-1))] _ _
          obtain ⟨D, eD⟩ : ∃ D, d + M + 1 + 1 = D + 7 := ⟨d + M + 1 + 1 - 7, by omega⟩
          rw [← kI_0, y1, eD]
          refine j_noteL (d := D) S1 y2 y3 (by omega) (by omega) (fun h2 ks2 S2 c2' x2 => ?_)
          simp only [psh]
          rw [← eD]
          exact body h2 ks2 S2 x2 (fun h' ks' S' c' q' b' x' => H1 h' ks' S' (c2'.tr c') q' b' x')
    by_cases z : G 4 b = G 5 b
    · obtain ⟨e4, e5⟩ := WB.2.2.1 z
      rw [e4, oN_m1]
      show wp _ _ _ _ [(0, vr (some J)), (1, vr (some (G 1 b))), (2, vr none)] _ _
      rw [bk_X2_judgeBlock_12]
      refine ⟨fun _ => ?_, fun y => absurd rfl y⟩
      rw [bk_X2_judgeBlock_42]
      have el : jbL R C L G nk nm b = [] := by unfold jbL; rw [z, Nat.sub_self]; rfl
      rw [el] at S1 H
      refine H h1 ks S1 CTK.rf (fun s q1 q2 => by omega) ⟨?_, ?_⟩ x1
      · rw [f1]
        show (0 : Int32) = chn (pcl R C L) 240 (oN (ai R 44 b)) 0
        rw [e4, oN_m1]; rfl
      · rw [f2]
        show (1 : Int32) = b2i (match oN (ai R 45 b) with | none => true | some s => decide (¬ L s = 0))
        rw [e5, oN_m1]; rfl
    · have le := WB.2.1
      obtain ⟨e1, e2, -⟩ := WB.2.2.2.1 (by omega)
      rw [e1, oN_nI (by omega)]
      refine LP _ (G 4 b) h1 ks true 0 240 (Nat.le_refl _) (Nat.le_refl _) (by omega) e2 S1 f1 f2 ?_ ?_ (fun s q1 q2 => by omega) un1 en1 x1 H
      · omega
      · show _ = chn (pcl R C L) 240 (oN (ai R 44 b)) 0
        rw [e1, oN_nI (by omega)]
end
