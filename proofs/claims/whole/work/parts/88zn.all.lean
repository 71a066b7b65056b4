/-! All statements, all blocks -/
theorem stc_of {D : Nat} (D0 : 0 < D) (D8 : D ≤ 8) (HB : BLC D) : STC D := by
  intro d h Q T U e0 l il so sc r R nk par wk pk nm fW ns fS ks B B0 G hd A hr hD d1 hl E C K L hns cr hB0 DP H
  have d0 : 0 < dN r := by omega
  have len := rt_len A.1
  obtain ⟨B, rfl⟩ : ∃ b, B = b + 1 := ⟨B - 1, by omega⟩
  obtain ⟨d, rfl⟩ : ∃ j, d = j + 8 := ⟨d - 8, by omega⟩
  have hsc : ∀ a, a ∈ sc → a + 1 < tp h ∧ U + 10 ≤ a := fun a m => ⟨(CHN.mem C a m).2.1, (CHN.mem C a m).1⟩
  have hU : U + 9 < tp h := E.1.2.2.1
  have he := L.e0
  have n120 := A.s.2
  refine st_pre E hr.1 L (by omega) (fun bad h' B' E' L' X' t' eB => ?_) (fun k hs hn h3 E3 L3 X3 t9 htp F3 => ?_)
  · have es : stpF r = faiF r := by
      unfold stpF
      rw [if_neg (dN_0 d0), if_neg d1]
      unfold rsF
      rw [if_pos]
      rcases bad with bad | bad
      · refine Or.inl ?_
        cases z : isSt r with
        | false => rfl
        | true => exact absurd bad ((isSt_srt A.1).mp z)
      · refine Or.inr ?_
        rw [A.s.1, ← hns, bad]; rfl
    have bw : ¬ gi (faiF r) 1452 = -1 := (fai_w A.1 hr.1).1
    have X : FX (EPn T U e0 (tp h) sc) h h' := X'.mono (fun g y z => by
      rcases z with z | z
      · exact Or.inl (EPW_a z)
      · exact Or.inr z)
    refine H h' (faiF r) (tp h) ks B ns fS 0 es.symm E' (EPn_end X) L' (fun _ _ => rfl) (fun z => absurd z bw) (fun _ => by omega) ⟨t'.1, t'.2, Nat.le_refl _⟩ (fun EN => ?_)
    have := (EN.step hr).right
    rw [es] at this
    exact absurd this bw
  · have noE : ∀ g a, g / 100 % 100 = 3 ∨ g = 603 → a < tp h → ¬ ENL U e0 (tp h) g a := fun g a hg ha w => by
      rcases w with w | w
      · exact ELs_no (by omega) w
      · omega
    have C3 : CHN h3 U sc so := CHN.fm X3 (fun a m => ⟨noE _ _ (by omega) (by have := hsc a m; omega), noE _ _ (by omega) (by have := hsc a m; omega)⟩) C
    have noK : ∀ z, z ≤ U + 5 → ¬ ENL U e0 (tp h) 90001 z := fun z hz w => by
      rcases w with w | w
      · exact ELs_no (by omega) w
      · omega
    have K3 : KD h3 (U + 1) nk par wk pk := K.fx X3 (fun g w => by
      rcases w with w | w
      · rcases w with w | w <;> omega
      · omega) (noK _ (by omega)) (noK _ (by omega)) (noK _ (by omega)) (noK _ (by omega))
    have DP3 : ENR r R → DPR h3 R G r (rsB r) sc l il nk wk nm (nsC r) fS := fun EN => by
      have P := DP EN
      rw [hns] at P
      have hm : ∀ c, c ∈ cch R (rsB r) → G 2 c + 1 < tp h := fun c m => (hsc _ (by rw [P.2.2.2.1]; exact List.mem_map.mpr ⟨c, m, rfl⟩)).1
      exact P.fx X3 hm (fun c m => by
        have := hm c m
        exact ⟨noE _ _ (by omega) (by omega), noE _ _ (by omega) (by omega), noE _ _ (by omega) (by omega)⟩)
    rw [hns] at L3 hn
    have S : SC D k := by
      have k11 := srt_le hs
      have ck : k = 0 ∨ k = 1 ∨ k = 2 ∨ k = 3 ∨ k = 4 ∨ k = 5 ∨ k = 6 ∨ k = 7 ∨ k = 8 ∨ k = 9 ∨ k = 10 ∨ k = 11 := by omega
      rcases ck with z | z | z | z | z | z | z | z | z | z | z | z
      · exact sc_08 (by omega)
      · rw [z]; exact sc_1 HB
      · rw [z]; exact sc_2
      · rw [z]; exact sc_3
      · rw [z]; exact sc_4 HB
      · exact sc_56 (by omega) HB
      · exact sc_56 (by omega) HB
      · rw [z]; exact sc_7
      · exact sc_08 (by omega)
      · rw [z]; exact sc_9 HB
      · rw [z]; exact sc_10 HB
      · rw [z]; exact sc_11 HB
    refine S (d + 8) h h3 Q T U e0 l il so sc r R nk par wk pk nm fW fS ks B B0 G hd A hr hD D0 d1 hl C3 hsc K3 hs hn E3 L3 (by omega) X3 t9 htp F3 (by omega) hB0 DP3 (fun h' r' ks' B' ns' fS' n a1 a2 a3 a4 a5 a6 a7 a8 a9 => ?_)
    exact H h' r' (tp h) ks' B' ns' fS' n a1 a2 a3 a4 (fun k hk => a5 k (by omega)) (fun z => by
      have := a6 z
      exact ⟨this.1, by omega, this.2.2⟩) a7 ⟨a8.1, a8.2, Nat.le_refl _⟩ a9
theorem blc_all : ∀ m D, D + m = 8 → BLC D := by
  intro m
  induction m with
  | zero => intro D h; exact blc_of (by omega) (fun z => by omega)
  | succ m ih => intro D h; exact blc_of (by omega) (fun _ => stc_of (by omega) (by omega) (ih (D + 1) (by omega)))
theorem blc_0 : BLC 0 := blc_all 8 0 rfl
