/-! order: all orders of up to six casks, one behind the other; a table of them, held against both sides' steps -/
def qo_tb (n : Nat) : Nat := match n with | 0 => 181896 | 1 => 181896 | 2 => 47681291912 | 3 => 225021219593186302641747114772104 | 4 => 7628382360410541315723259332558416456496285277342147387167817711727701428905604245126966807979219511544431946399570022586462160520 | 5 => 105302680778070687697280639987164949837380769355084755977632859132894585554173921831427706012652516354771998465020046522005629157764489843680202280099155873012695385523084427429606278536535475801455655774779384568112121476079638557953582801468856766023866769573843315317099685535458671753733863957193193287257682720076667318289757531704435655256553764781625638096879415211975320859618802930590105641760703686733857400147397627839379867089283153837173163167181855194800802247205356782501650819561482740207232889791187300557081194697346740794384351187563447751832601301764567635387943074229083503817668968761762455633929419073623966882444655165528262280 | _ => 455498570197711749010957904351519117023471056843734810162921130615690140906625219161976867188089757211984822289836946213513630993324236385992626680501062140103379639934333022361301337770890454276057898473653914239370824433533281276903682010010691692254286522419628286481360150510386636978374803053011684942246136894375944111488752302881636302840166691561026082781854187843485176063911291615212674499049565234106347119034341025517833785112194415339592576264218811789413984924671206143634283010728873478446161978329530037680317092429389171433091383857773827785695745376389739579430870883013590111868028652135241416524525837977341643650827293915682538566044042312392640945457192563037544840477500842267181450178712993602507073146567603823423511107383801465406477932442967914157593251793781694717957892565144624110856881451119845390363035753779570088129164224353818004046112153914519142496764939451275740186476426041694277009921494088007702335011167289990989973186186725255606208444007252495123323845432453230067664544374414351055491861193519444777540787052299141279302550125690788133243567719031930468100604514192908291576795428012225481902035161689160851557276861459112461555744143742803358969723879693876113968960667421240441771248904385537530389991290674850961215826498092782788995429269736508202071772896643559918846703402163093849870512719405415199444216544967716821161404762490233972128877821168449367646275707457343147684428838518192871467725964253963888070317644546495016128093716731707832161320202039481796607163180896798834776298677311067153409803258380593295373137717696718147162251953527761335996227103615276331872197669014523475086715648455099722867540099162723155105526010243889406164032353830284793979350108338610791023480216779181820347576758076144480211984850725339251657499940589925606937223824807751710142086742761650795368678779620620737339743349097817019231262301855116514058588198161646698192339240487135564501469765982460473042226657081457981159143731219918628544893325252115456798565454628325427092167391148181842321468736322455292057685470140018042999746547324133009294317117845325289620120663630153429479782808797576849403906180789454869758980819789126971239229765380223992385033500535060417412368667151245929961600924490051151561793504081402738487853733794730345268573789676200761534392088176852735403473339563280388780126573934684886911073057789176790123895575571633446264269307442133307801195993040474454725436930446883998811841539332866208346810979200539461829670426556095604125249680059564274825246034454379682655996838921405635357842863298093123946721112119059670220051884986444456121088396819467984431621692555924896462855757127781279308187710680714280175196954524649603146781827079048828512540071640018840203856560997958996929582512583247457396075904248485639417122219651541070906185767172252610393094881444052426979030837500512339589169284110883819444774507842446182145355453784046972870055200198225164846290655846977478572815443476204100071599930876085493594620271819956092247961644964499474569032543102442687645369850651281196340703851138577685625485843169619094858545797223509766598147642977680821365139054182851892715933096576142946215426158111380201111105843947777351330307214402626510641208882553463428875934256342813183115762551047128865095121703542610505599689181062105223903252703956187036134052115315883752164449219605138174423487215211713100602322296766558468678900914156244167688488529982478137482615455924367210380807650013451751413241200645565942463195503240673078845543224679591503843405214696888989375694068176344324558652048914704277633611345876326859193329349830821844708915474637494330839446372784954573334794547157842892577824023421526880291335589988081672313136623973094502362993591053073073955238488104376288305309842901611185246332512187178115246075794025128845296740349760736023796354354187003222108647160878590185059235014514008851758274758280
/-- the k-th order of n (identity behind n) -/
def qo_a (n k p : Nat) : Nat := qo_tb n / 2 ^ (18 * k) % 2 ^ 18 / 8 ^ p % 8
theorem qo_al {n k p : Nat} : qo_a n k p < 8 := Nat.mod_lt _ (by omega)
/-- the class's step: where it begins, with whom it is swapped, what is turned round -/
def qo_l (a : Nat → Nat) : Nat → Nat
  | 0 => 0
  | m + 1 => if a (m + 1) < a m then qo_l a m else m + 1
def qo_r (a : Nat → Nat) (l : Nat) : Nat → Nat
  | 0 => 0
  | m + 1 => if l < m + 1 then (if a (m + 1) < a l then qo_r a l m else m + 1) else m + 1
def qo_s (a : Nat → Nat) (x y : Nat) : Nat → Nat := fun p => if p = y then a x else (if p = x then a y else a p)
def qo_v : Nat → (Nat → Nat) → Nat → Nat → (Nat → Nat)
  | 0, a, _, _ => a
  | f + 1, a, x, y => if x < y then qo_v f (qo_s a x y) (x + 1) (y - 1) else a
def qo_x (n : Nat) (a : Nat → Nat) : Nat → Nat := qo_v 3 (qo_s a (qo_l a (n - 1) - 1) (qo_r a (qo_l a (n - 1) - 1) (n - 1))) (qo_l a (n - 1)) (n - 1)
/-- the reference's: what is used, what is left -/
def qo_u (n k : Nat) : Nat → Nat
  | 0 => 0
  | i + 1 => qo_u n k i ||| 2 ^ qo_a n k i
def qo_q (n k : Nat) : Nat → Nat
  | 0 => k
  | i + 1 => qo_q n k i % qt_fa (n - 1 - i)
def qo_okN (n k : Nat) : Bool := if k + 1 = qt_fa n then qo_l (qo_a n k) (n - 1) == 0 else (!(qo_l (qo_a n k) (n - 1) == 0) && (List.range 6).all (fun p => qo_x n (qo_a n k) p == qo_a n (k + 1) p))
def qo_okL (n k : Nat) : Bool := (List.range n).all (fun i => Nat.blt (qo_a n k i) n && !((qo_u n k i).testBit (qo_a n k i)) && (qs_ct (fun j => !((qo_u n k i).testBit j)) (qo_a n k i) == qo_q n k i / qt_fa (n - 1 - i)))
def qo_ok (n : Nat) : Bool := (List.range (qt_fa n)).all (fun k => qo_okN n k && qo_okL n k)
theorem qo_ok0 : qo_ok 0 = true := by decide +kernel
theorem qo_ok1 : qo_ok 1 = true := by decide +kernel
theorem qo_ok2 : qo_ok 2 = true := by decide +kernel
theorem qo_ok3 : qo_ok 3 = true := by decide +kernel
theorem qo_ok4 : qo_ok 4 = true := by decide +kernel
theorem qo_ok5 : qo_ok 5 = true := by decide +kernel
theorem qo_ok6 : qo_ok 6 = true := by decide +kernel
theorem qo_all {n k : Nat} (hn : n ≤ 6) (hk : k < qt_fa n) : qo_okN n k = true ∧ qo_okL n k = true := by
  have h : qo_ok n = true := by
    rcases (show n = 0 ∨ n = 1 ∨ n = 2 ∨ n = 3 ∨ n = 4 ∨ n = 5 ∨ n = 6 by omega) with e | e | e | e | e | e | e <;> subst e
    · exact qo_ok0
    · exact qo_ok1
    · exact qo_ok2
    · exact qo_ok3
    · exact qo_ok4
    · exact qo_ok5
    · exact qo_ok6
  have := List.all_eq_true.mp h k (List.mem_range.mpr hk)
  rwa [Bool.and_eq_true] at this
/-- the last one -/
theorem qo_end {n k : Nat} (hn : n ≤ 6) (hk : k + 1 = qt_fa n) : qo_l (qo_a n k) (n - 1) = 0 := by
  have := (qo_all (k := k) hn (by omega)).1
  unfold qo_okN at this
  rw [if_pos hk] at this
  exact beq_iff_eq.mp this
/-- the next one -/
theorem qo_nxt {n k : Nat} (hn : n ≤ 6) (hk : k + 1 < qt_fa n) : qo_l (qo_a n k) (n - 1) ≠ 0 ∧ ∀ p, p < 6 → qo_x n (qo_a n k) p = qo_a n (k + 1) p := by
  have := (qo_all (k := k) hn (by omega)).1
  unfold qo_okN at this
  rw [if_neg (by omega), Bool.and_eq_true, Bool.not_eq_true'] at this
  exact ⟨fun c => by rw [c] at this; exact absurd this.1 (by decide), fun p hp => beq_iff_eq.mp (List.all_eq_true.mp this.2 p (List.mem_range.mpr hp))⟩
theorem qo_lay {n k i : Nat} (hn : n ≤ 6) (hk : k < qt_fa n) (hi : i < n) : qo_a n k i < n ∧ (qo_u n k i).testBit (qo_a n k i) = false ∧ qs_ct (fun j => !((qo_u n k i).testBit j)) (qo_a n k i) = qo_q n k i / qt_fa (n - 1 - i) := by
  have := (qo_all (k := k) hn hk).2
  unfold qo_okL at this
  have := List.all_eq_true.mp this i (List.mem_range.mpr hi)
  rw [Bool.and_eq_true, Bool.and_eq_true, Bool.not_eq_true'] at this
  exact ⟨Nat.blt_eq.mp this.1.1, this.1.2, beq_iff_eq.mp this.2⟩
theorem qo_id : ∀ n, n < 7 → ∀ p, p < 6 → qo_a n 0 p = p := by decide +kernel
theorem qo_m1 : ∀ m, m < 9 → (1 ≤ m → nI m - 1 = nI (m - 1) ∧ nI m + -1 = nI (m - 1)) ∧ (nI m - 1 < 0 ↔ m = 0) ∧ nI m - 1 + 1 = nI m := by decide
section QV
variable {n t : Nat} {x s : Nat → Nat} {T : Nat → Nat → Nat} {o b : Nat → Nat} {σ τ : qa_S} {N : Nat}
/-- the numbers of an order lie there -/
def qo_at (a : Nat → Nat) (c : Nat) (σ : qa_S) : Prop := ∀ p, p < 6 → σ c p = nI (a p)
theorem qo_96l {a : Nat → Nat} (h : qo_at a 90 σ) (ha : ∀ p, a p < 8) : ∀ m M, m < 6 → m < M → qa_wh (fun s => s) (mc_96_89_p7 N σ) M (nI m - 1) = nI (qo_l a m) - 1 := by
  intro m
  induction m with
  | zero =>
    intro M hm hM
    obtain ⟨K, rfl⟩ : ∃ K, M = K + 1 := ⟨M - 1, by omega⟩
    rw [qa_whr (b := nI 0 - 1) (by unfold mc_96_89_p7; rw [if_pos (show nI 0 - 1 < (0 : Int32) by decide)])]
    rfl
  | succ m ih =>
    intro M hm hM
    obtain ⟨K, rfl⟩ : ∃ K, M = K + 1 := ⟨M - 1, by omega⟩
    obtain ⟨q1, q2, q3⟩ := qo_m1 (m + 1) (by omega)
    have n0 : ¬ nI (m + 1) - 1 < (0 : Int32) := fun c => by have := q2.mp c; omega
    have e1 : nI (m + 1) - 1 = nI m := (q1 (by omega)).1
    have e2 : nI (m + 1) - 1 + -1 = nI m - 1 := by
      rw [e1]
      by_cases z : m = 0
      · subst z; decide
      · rw [((qo_m1 m (by omega)).1 (by omega)).1, ((qo_m1 m (by omega)).1 (by omega)).2]
    show _ = nI (if a (m + 1) < a m then qo_l a m else m + 1) - 1
    by_cases c : a (m + 1) < a m
    · rw [if_pos c, ← ih K (by omega) (by omega)]
      refine qa_whl ?_
      unfold mc_96_89_p7
      rw [if_neg n0, q3, e2, e1, qb_n (by omega), qb_n (by omega), h (m + 1) (by omega), h m (by omega), if_pos (qb_ltT c (by have := ha m; omega))]
    · rw [if_neg c]
      refine qa_whr ?_
      unfold mc_96_89_p7
      rw [if_neg n0, q3, e2, e1, qb_n (by omega), qb_n (by omega), h (m + 1) (by omega), h m (by omega), if_neg (qb_ltF (Nat.le_of_not_lt c) (by have := ha (m + 1); omega))]
theorem qo_96r {a : Nat → Nat} {l : Nat} (h : qo_at a 90 σ) (ha : ∀ p, a p < 8) (hl : l < 6) : ∀ m M, m < 6 → m < M → qa_wh (fun s => s) (mc_96_89_p47 N (nI l) σ) M (nI m) = nI (qo_r a l m) := by
  intro m
  induction m with
  | zero =>
    intro M hm hM
    obtain ⟨K, rfl⟩ : ∃ K, M = K + 1 := ⟨M - 1, by omega⟩
    rw [qa_whr (b := nI 0) (by unfold mc_96_89_p47; rw [if_neg (show ¬ nI l < nI 0 from qb_ltF (Nat.zero_le _) (by omega))])]
    rfl
  | succ m ih =>
    intro M hm hM
    obtain ⟨K, rfl⟩ : ∃ K, M = K + 1 := ⟨M - 1, by omega⟩
    have e1 : nI (m + 1) + -1 = nI m := ((qo_m1 (m + 1) (by omega)).1 (by omega)).2
    show _ = nI (if l < m + 1 then (if a (m + 1) < a l then qo_r a l m else m + 1) else m + 1)
    by_cases c : l < m + 1
    · rw [if_pos c]
      by_cases d : a (m + 1) < a l
      · rw [if_pos d, ← ih K (by omega) (by omega)]
        refine qa_whl ?_
        unfold mc_96_89_p47
        rw [if_pos (qb_ltT c (by omega)), e1, qb_n (by omega), qb_n (by omega), h (m + 1) (by omega), h l hl, if_pos (qb_ltT d (by have := ha l; omega))]
      · rw [if_neg d]
        refine qa_whr ?_
        unfold mc_96_89_p47
        rw [if_pos (qb_ltT c (by omega)), qb_n (by omega), qb_n (by omega), h (m + 1) (by omega), h l hl, if_neg (qb_ltF (Nat.le_of_not_lt d) (by have := ha (m + 1); omega))]
    · rw [if_neg c]
      refine qa_whr ?_
      unfold mc_96_89_p47
      rw [if_neg (qb_ltF (Nat.le_of_not_lt c) (by omega))]
theorem qo_97 {a : Nat → Nat} {y z : Nat} (h : qo_at a 90 σ) (hy : y < 6) (hz : z < 6) : qo_at (qo_s a y z) 90 (ma_97_89 (nI y) (nI z) σ) ∧ qb_F (fun a _ => a = 90) σ (ma_97_89 (nI y) (nI z) σ) := by
  unfold ma_97_89
  dsimp only [qa_in]
  rw [qb_n (k := y) (by omega), qb_n (k := z) (by omega)]
  refine ⟨fun p hp => ?_, fun c i hc => ?_⟩
  · rw [qb_uJ, qb_uJ]
    unfold qo_s
    by_cases e : p = z
    · rw [if_pos e, if_pos e]; exact h y hy
    · rw [if_neg e, if_neg e]
      by_cases e2 : p = y
      · rw [if_pos e2, if_pos e2]; exact h z hz
      · rw [if_neg e2, if_neg e2]; exact h p hp
  · rw [qb_uA hc, qb_uA hc]
theorem qo_sl {a : Nat → Nat} {y z : Nat} (ha : ∀ p, a p < 8) : ∀ p, qo_s a y z p < 8 := fun p => by
  unfold qo_s
  split
  · exact ha _
  · split
    · exact ha _
    · exact ha _
theorem qo_96v : ∀ (f : Nat) (a : Nat → Nat) (y z M : Nat) (σ : qa_S), qo_at a 90 σ → y < 7 → z < 6 → z ≤ y + 2 * f → f < M → qo_at (qo_v f a y z) 90 (qa_wh (fun s => s) (mc_96_89_p91 N) M (nI z, nI y, σ)).2.2 ∧ qb_F (fun a _ => a = 90) σ (qa_wh (fun s => s) (mc_96_89_p91 N) M (nI z, nI y, σ)).2.2 := by
  intro f
  induction f with
  | zero =>
    intro a y z M σ h hy hz hl hM
    obtain ⟨K, rfl⟩ : ∃ K, M = K + 1 := ⟨M - 1, by omega⟩
    rw [qa_whr (b := (nI z, nI y, σ)) (by unfold mc_96_89_p91; dsimp only; rw [if_neg (qb_ltF (show z ≤ y by omega) (by omega))])]
    exact ⟨h, qb_Fr⟩
  | succ f ih =>
    intro a y z M σ h hy hz hl hM
    obtain ⟨K, rfl⟩ : ∃ K, M = K + 1 := ⟨M - 1, by omega⟩
    show qo_at (if y < z then qo_v f (qo_s a y z) (y + 1) (z - 1) else a) 90 _ ∧ _
    by_cases c : y < z
    · rw [if_pos c]
      obtain ⟨s1, s2⟩ := qo_97 (y := y) (z := z) h (by omega) hz
      have e1 : nI z + -1 = nI (z - 1) := ((qo_m1 z (by omega)).1 (by omega)).2
      rw [qa_whl (s' := (nI (z - 1), nI (y + 1), ma_97_89 (nI y) (nI z) σ)) (by unfold mc_96_89_p91; dsimp only [qa_in]; rw [if_pos (qb_ltT c (by omega)), e1, qb_s])]
      obtain ⟨g1, g2⟩ := ih (qo_s a y z) (y + 1) (z - 1) K (ma_97_89 (nI y) (nI z) σ) s1 (by omega) (by omega) (by omega) (by omega)
      exact ⟨g1, qb_Ft s2 g2 (fun a j h => h) (fun a j h => h)⟩
    · rw [if_neg c, qa_whr (b := (nI z, nI y, σ)) (by unfold mc_96_89_p91; dsimp only; rw [if_neg (qb_ltF (Nat.le_of_not_lt c) (by omega))])]
      exact ⟨h, qb_Fr⟩
theorem qo_ll {a : Nat → Nat} : ∀ m, qo_l a m ≤ m := by
  intro m
  induction m with
  | zero => exact Nat.le_refl 0
  | succ m ih =>
    show (if a (m + 1) < a m then qo_l a m else m + 1) ≤ m + 1
    split <;> omega
theorem qo_rl {a : Nat → Nat} {l : Nat} : ∀ m, qo_r a l m ≤ m := by
  intro m
  induction m with
  | zero => exact Nat.le_refl 0
  | succ m ih =>
    show (if l < m + 1 then (if a (m + 1) < a l then qo_r a l m else m + 1) else m + 1) ≤ m + 1
    split
    · split <;> omega
    · exact Nat.le_refl _
/-- the class goes on to the next order -/
theorem qo_96 {a : Nat → Nat} (hN : 100 ≤ N) (hn : n ≤ 6) (h89 : σ 89 0 = nI n) (h : qo_at a 90 σ) (ha : ∀ p, a p < 8) : (qo_l a (n - 1) = 0 → ma_96_89 N σ = (0, σ)) ∧ (qo_l a (n - 1) ≠ 0 → (ma_96_89 N σ).1 = 1 ∧ qo_at (qo_x n a) 90 (ma_96_89 N σ).2 ∧ qb_F (fun a _ => a = 90) σ (ma_96_89 N σ).2) := by
  unfold ma_96_89
  dsimp only [qa_in]
  by_cases n0 : n = 0
  · subst n0
    have L : qa_wh (fun s => s) (mc_96_89_p7 N σ) N (σ 89 0 - 2) = -2 := by
      obtain ⟨K, rfl⟩ : ∃ K, N = K + 1 := ⟨N - 1, by omega⟩
      rw [h89, show nI 0 - 2 = (-2 : Int32) by decide]
      refine qa_whr ?_
      unfold mc_96_89_p7
      rw [if_pos (show (-2 : Int32) < 0 by decide)]
    rw [L, if_pos (show (-2 : Int32) < 0 by decide)]
    exact ⟨fun _ => rfl, fun c => absurd rfl c⟩
  have e2 : σ 89 0 - 2 = nI (n - 1) - 1 := by
    have : ∀ n, n < 7 → n ≠ 0 → nI n - 2 = nI (n - 1) - 1 := by decide
    rw [h89]
    exact this n (by omega) n0
  have e1 : nI n - 1 = nI (n - 1) := ((qo_m1 n (by omega)).1 (by omega)).1
  rw [e2, qo_96l h ha (n - 1) N (by omega) (by omega)]
  have ll := qo_ll (a := a) (n - 1)
  obtain ⟨lv, elv⟩ : ∃ lv, lv = qo_l a (n - 1) := ⟨_, rfl⟩
  have hlq := qo_m1 lv (by omega)
  constructor
  · intro c
    rw [← elv] at c ⊢
    rw [if_pos (hlq.2.1.mpr c)]
  · intro c
    unfold qo_x
    rw [← elv] at c ⊢
    obtain ⟨l, el⟩ : ∃ l, lv = l + 1 := ⟨lv - 1, by omega⟩
    have f1 : nI lv - 1 = nI l := by rw [(hlq.1 (by omega)).1, el]; rfl
    rw [if_neg (fun c2 => c (hlq.2.1.mp c2)), f1, h89, e1, qo_96r h ha (show l < 6 by omega) (n - 1) N (by omega) (by omega), qb_s]
    have rl := qo_rl (a := a) (l := l) (n - 1)
    obtain ⟨s1, s2⟩ := qo_97 (y := l) (z := qo_r a l (n - 1)) h (by omega) (by omega)
    rw [s2 89 0 (by omega), h89, e1, el]
    obtain ⟨g1, g2⟩ := qo_96v (N := N) 3 (qo_s a l (qo_r a l (n - 1))) (l + 1) (n - 1) N _ s1 (by omega) (by omega) (by omega) (by omega)
    exact ⟨rfl, g1, qb_Ft s2 g2 (fun a j h => h) (fun a j h => h)⟩
/-- the reference lays an order -/
theorem qo_39 {l2 l3 l5 : Int32} {used d skip : Nat} (hN : 20 ≤ N) (hu : used < 128) (hd : d < 7) (h1 : used.testBit d = false) (h2 : qs_ct (fun j => !used.testBit j) d = skip) : (qa_wh (fun s => s) (mc_214_99_p39 N l2 l3 (nI used) l5 σ) N ((0 : Int32), nI skip)).1 = nI d := by
  have cb : ∀ j, j < 7 → ((ma_185 (nI used) (nI j) = 0) ↔ used.testBit j = false) := fun j hj => by rw [qs_185 used hu j hj]; exact qs_bz
  have mono : ∀ j, j < d → used.testBit j = false → qs_ct (fun j => !used.testBit j) j + 1 ≤ skip := fun j hj hb => by
    have e : qs_ct (fun j => !used.testBit j) (j + 1) = qs_ct (fun j => !used.testBit j) j + 1 := by
      have e0 : qs_ct (fun j => !used.testBit j) (j + 1) = if (!used.testBit j) = true then qs_ct (fun j => !used.testBit j) j + 1 else qs_ct (fun j => !used.testBit j) j := rfl
      rw [e0, hb, if_pos (show (!false) = true from rfl)]
    have m : ∀ i, qs_ct (fun j => !used.testBit j) (j + 1) ≤ qs_ct (fun j => !used.testBit j) (j + 1 + i) := by
      intro i
      induction i with
      | zero => exact Nat.le_refl _
      | succ i ih =>
        refine Nat.le_trans ih ?_
        show qs_ct (fun j => !used.testBit j) (j + 1 + i) ≤ (if (!used.testBit (j + 1 + i)) = true then qs_ct (fun j => !used.testBit j) (j + 1 + i) + 1 else qs_ct (fun j => !used.testBit j) (j + 1 + i))
        split <;> omega
    have := m (d - (j + 1))
    rw [show j + 1 + (d - (j + 1)) = d by omega, h2, e] at this
    exact this
  have le : ∀ j, j ≤ d → qs_ct (fun j => !used.testBit j) j ≤ 7 := fun j hj => by
    have : qs_ct (fun j => !used.testBit j) j ≤ j := qs_ctl
    omega
  have sl : skip ≤ 7 := by rw [← h2]; exact le d (Nat.le_refl d)
  refine qb_l0 (fun (j : Nat) (q : Int32 × Int32) => q = (nI j, nI (skip - qs_ct (fun j => !used.testBit j) j)) ∧ qs_ct (fun j => !used.testBit j) j ≤ skip) (fun (q : Int32 × Int32) => q.1 = nI d) d (by omega) ⟨rfl, Nat.zero_le _⟩ (fun j q hj hq => ?_) (fun q hq => ?_)
  · obtain ⟨rfl, hl⟩ := hq
    unfold mc_214_99_p39
    dsimp only
    by_cases c : used.testBit j = false
    · have e : qs_ct (fun j => !used.testBit j) (j + 1) = qs_ct (fun j => !used.testBit j) j + 1 := by
        have e0 : qs_ct (fun j => !used.testBit j) (j + 1) = if (!used.testBit j) = true then qs_ct (fun j => !used.testBit j) j + 1 else qs_ct (fun j => !used.testBit j) j := rfl
        rw [e0, c, if_pos (show (!false) = true from rfl)]
      have m := mono j hj c
      rw [if_pos ((cb j (by omega)).mpr c), if_pos (show (0 : Int32) < nI (skip - qs_ct (fun j => !used.testBit j) j) from qb_ltT (a := 0) (by omega) (by omega)), if_pos ((cb j (by omega)).mpr c), show (1 : Int32) = nI 1 from rfl, qw_sub (by omega), qw_add]
      refine ⟨_, rfl, ?_, by omega⟩
      rw [e]
      exact Prod.ext rfl (congrArg nI (by omega))
    · have c' : used.testBit j = true := by
        cases h : used.testBit j
        · exact absurd h c
        · rfl
      have e : qs_ct (fun j => !used.testBit j) (j + 1) = qs_ct (fun j => !used.testBit j) j := by
        have e0 : qs_ct (fun j => !used.testBit j) (j + 1) = if (!used.testBit j) = true then qs_ct (fun j => !used.testBit j) j + 1 else qs_ct (fun j => !used.testBit j) j := rfl
        rw [e0, c', if_neg (show ¬ (!true) = true by decide)]
      rw [if_neg (fun h => c ((cb j (by omega)).mp h)), if_neg (fun h => c ((cb j (by omega)).mp h)), qb_s]
      refine ⟨_, rfl, ?_, by omega⟩
      rw [e]
      exact Prod.ext rfl (Int32.sub_zero _)
  · obtain ⟨rfl, hl⟩ := hq
    unfold mc_214_99_p39
    dsimp only
    rw [if_pos ((cb d hd).mpr h1), h2, if_neg (show ¬ (0 : Int32) < nI (skip - skip) by rw [Nat.sub_self]; decide)]
    exact ⟨_, rfl, rfl⟩
theorem qo_ul {k : Nat} (hn : n ≤ 6) (hk : k < qt_fa n) : ∀ i, i ≤ n → qo_u n k i < 128 := by
  intro i
  induction i with
  | zero => intro _; exact Nat.zero_lt_succ _
  | succ i ih =>
    intro hi
    obtain ⟨a1, -, -⟩ := qo_lay hn hk (show i < n by omega)
    exact Nat.or_lt_two_pow (n := 7) (ih (by omega)) (Nat.pow_lt_pow_right (by omega) (by omega))
theorem qo_214 {k : Nat} (hN : 100 ≤ N) (hn : n ≤ 6) (hk : k < qt_fa n) : (∀ p, p < n → ma_214_99 N (nI k) (nI n) τ 121 p = nI (qo_a n k p)) ∧ qb_F (fun a _ => a = 121) τ (ma_214_99 N (nI k) (nI n) τ) := by
  have fk : ∀ k, k < 7 → qt_fa k ≤ 720 := by decide
  have kl : k ≤ 5040 := by have := fk n (by omega); omega
  have ql : ∀ i, qo_q n k i ≤ k := by
    intro i
    induction i with
    | zero => exact Nat.le_refl k
    | succ i ih => exact Nat.le_trans (Nat.mod_le _ _) ih
  unfold ma_214_99
  dsimp only [qa_in]
  refine qb_l0 (fun (i : Nat) (q : Int32 × Int32 × Int32 × qa_S) => q.1 = nI i ∧ q.2.1 = nI (qo_q n k i) ∧ q.2.2.1 = nI (qo_u n k i) ∧ (∀ p, p < i → q.2.2.2 121 p = nI (qo_a n k p)) ∧ qb_F (fun a _ => a = 121) τ q.2.2.2) (fun (q : Int32 × Int32 × Int32 × qa_S) => (∀ p, p < n → q.2.2.2 121 p = nI (qo_a n k p)) ∧ qb_F (fun a _ => a = 121) τ q.2.2.2) n (by omega) ⟨rfl, rfl, rfl, fun p hp => by omega, qb_Fr⟩ ?_ ?_
  · rintro i ⟨q1, q2, q3, q4⟩ hi ⟨g1, g2, g3, g4, g5⟩
    dsimp only at g1 g2 g3 g4 g5
    subst g1 g2 g3
    obtain ⟨a1, a2, a3⟩ := qo_lay hn hk hi
    have ul := qo_ul hn hk i (by omega)
    have fl := qt_fal (n - 1 - i) (by omega)
    have q0 := ql i
    have ei : nI n - 1 - nI i = nI (n - 1 - i) := by rw [((qo_m1 n (by omega)).1 (by omega)).1, qw_sub (by omega)]
    unfold mc_214_99_p8
    dsimp only [qa_in]
    rw [if_pos (qb_ltT hi (by omega)), ei, qt_215 (by omega) _ (by omega), qw_div (by omega) (by omega) (by omega), qw_mul, qw_sub (Nat.div_mul_le_self _ _), qo_39 (by omega) ul (by omega) a2 a3, qb_n (k := i) (by omega), qw_sh _ (by omega), qw_or, qb_s]
    refine ⟨_, rfl, rfl, ?_, rfl, fun p hp => ?_, fun a j ha => ?_⟩
    · dsimp only
      refine congrArg nI ?_
      show _ = qo_q n k i % qt_fa (n - 1 - i)
      have := Nat.div_add_mod (qo_q n k i) (qt_fa (n - 1 - i))
      rw [Nat.mul_comm] at this
      omega
    · dsimp only
      rw [qb_uJ]
      by_cases e : p = i
      · rw [if_pos e, e]
      · rw [if_neg e]; exact g4 p (by omega)
    · dsimp only
      rw [qb_uA ha]; exact g5 a j ha
  · rintro ⟨q1, q2, q3, q4⟩ ⟨g1, g2, g3, g4, g5⟩
    dsimp only at g1 g2 g3 g4 g5
    subst g1 g2 g3
    unfold mc_214_99_p8
    dsimp only
    rw [if_neg (qb_ltF (Nat.le_refl n) (by omega))]
    exact ⟨_, rfl, g4, g5⟩
/-- how much is forgotten by an order -/
def qo_y (n : Nat) (T : Nat → Nat → Nat) (a : Nat → Nat) (mem : Int32) (p : Nat) : Int32 := (nI n - 1 - nI p) * nI (qs_wt (T (a p))) - mem * nI p
def qo_D (n : Nat) (T : Nat → Nat → Nat) (a : Nat → Nat) (mem : Int32) : Int32 := qw_f (fun p z => z + (if qo_y n T a mem p < 0 then 0 else qo_y n T a mem p)) n 0
theorem qo_70 (z : Int32) : ma_70 0 z = if z < 0 then 0 else z := by
  unfold ma_70
  by_cases c : z < 0
  · rw [if_pos c, if_neg (fun d => by rw [Int32.lt_iff_toInt_lt] at c d; omega)]
  · rw [if_neg c]
    by_cases d : 0 < z
    · rw [if_pos d]
    · rw [if_neg d]
      apply Int32.toInt_inj.mp
      rw [Int32.lt_iff_toInt_lt] at c d
      rw [show (0 : Int32).toInt = 0 by decide] at c d ⊢
      omega
theorem qo_94 {a : Nat → Nat} {mem : Int32} (hN : 20 ≤ N) (hn : n ≤ 6) (hB : qv_B n t s T o b) (hC : qv_C n t s T o b σ) (h89 : σ 89 0 = nI n) (h : qo_at a 90 σ) (ha : ∀ p, p < n → a p < n) : ma_94_3 N mem σ = qo_D n T a mem := by
  unfold ma_94_3
  dsimp only [qa_in]
  refine congrArg Prod.snd (qw_lp (e := fun s => s) (fun p (z : Int32) => (nI p, z)) (fun z => (nI n, z)) (fun p z => z + (if qo_y n T a mem p < 0 then 0 else qo_y n T a mem p)) n 0 (by omega) (fun p z hp => ?_) (fun z => ?_))
  · unfold mc_94_3_p4
    dsimp only [qa_in]
    rw [if_pos (qw_ltT h89 hp (by omega)), qb_n (k := p) (by omega), h p (by omega), qs_95 (by omega) hB hC (ha p hp), h89, qo_70, qb_s]
    rfl
  · unfold mc_94_3_p4
    dsimp only
    rw [if_neg (qw_ltF h89 (by omega))]
theorem qo_213 {k u : Nat} {mem : Int32} (hN : 100 ≤ N) (hn : n ≤ 6) (hB : qv_B n t s T o b) (hR : qv_R n t s T o b τ) (hu : u < 6) (hm : τ 106 u = mem) (hk : k < qt_fa n) : (ma_213_99 N (nI u) (nI k) τ).1 = qo_D n T (qo_a n k) mem ∧ qb_F (fun a _ => a = 121) τ (ma_213_99 N (nI u) (nI k) τ).2 := by
  obtain ⟨a1, a2⟩ := qo_214 (τ := τ) (N := N) hN hn hk
  unfold ma_213_99
  dsimp only [qa_in]
  rw [hR.1]
  obtain ⟨ρ, eρ⟩ : ∃ ρ, ρ = ma_214_99 N (nI k) (nI n) τ := ⟨_, rfl⟩
  rw [← eρ] at a1 a2 ⊢
  have R1 := qv_RF a2 (fun a j h c => by omega) hR
  refine ⟨?_, a2⟩
  refine congrArg Prod.snd (qw_lp (e := fun s => s) (fun p (z : Int32) => (nI p, z)) (fun z => (nI n, z)) (fun p z => z + (if qo_y n T (qo_a n k) mem p < 0 then 0 else qo_y n T (qo_a n k) mem p)) n 0 (by omega) (fun p z hp => ?_) (fun z => ?_))
  · have ey : (ρ 99 0 - 1 - nI p) * ma_216_99 (ρ 121 p) ρ - ρ 106 u * nI p = qo_y n T (qo_a n k) mem p := by
      rw [R1.1, a1 p hp, qs_216 hB R1 (qo_lay hn hk hp).1, a2 106 u (by omega), hm]
      rfl
    unfold mc_213_99_p14
    dsimp only
    rw [if_pos (qw_ltT R1.1 hp (by omega)), qb_n (k := p) (by omega), qb_n (k := u) (by omega), ey, qb_s]
  · unfold mc_213_99_p14
    dsimp only
    rw [if_neg (qw_ltF R1.1 (by omega))]
/-- the best of the orders so far -/
def qo_G (D : Nat → Int32) (k : Nat) (a : Nat × Int32) : Nat × Int32 := if D (1 + k) < a.2 then (1 + k, D (1 + k)) else a
theorem qo_Gl {D : Nat → Int32} {z : Int32} : ∀ k, (qw_f (qo_G D) k (0, z)).1 ≤ k := fun k => qw_fI (F := qo_G D) (a := ((0, z) : Nat × Int32)) (fun k a => a.1 ≤ k) (Nat.le_refl 0) (n := k) (fun j a hj ha => by
  unfold qo_G
  split
  · show 1 + j ≤ j + 1; omega
  · omega)
theorem qo_93 (hN : 20 ≤ N) (hn : n ≤ 6) : ma_93_89 N (nI n) σ 89 0 = nI n ∧ qo_at (fun p => p) 90 (ma_93_89 N (nI n) σ) ∧ qb_F (fun a j => (a = 89 ∧ j = 0) ∨ a = 90) σ (ma_93_89 N (nI n) σ) := by
  unfold ma_93_89
  dsimp only [qa_in]
  have e : ma_71 (nI n) 6 = nI n := by
    have : ∀ n, n < 7 → ma_71 (nI n) 6 = nI n := by decide +kernel
    exact this n (by omega)
  rw [e]
  refine qb_l0 (fun (k : Nat) (q : Int32 × qa_S) => q.1 = nI k ∧ q.2 89 0 = nI n ∧ (∀ p, p < k → q.2 90 p = nI p) ∧ qb_F (fun a j => (a = 89 ∧ j = 0) ∨ a = 90) σ q.2) (fun (q : Int32 × qa_S) => q.2 89 0 = nI n ∧ qo_at (fun p => p) 90 q.2 ∧ qb_F (fun a j => (a = 89 ∧ j = 0) ∨ a = 90) σ q.2) 6 (by omega) ⟨rfl, (show qa_u σ 89 0 (nI n) 89 0 = nI n from qb_uE), fun p hp => by omega, fun a j h => qb_uN (by omega)⟩ ?_ ?_
  · rintro k ⟨q1, q2⟩ hk ⟨g1, g2, g3, g4⟩
    dsimp only at g1 g2 g3 g4
    subst g1
    unfold mc_93_89_p12
    dsimp only [qa_in]
    rw [if_pos (show nI k < (6 : Int32) from qb_ltT (b := 6) hk (by omega)), qb_n (k := k) (by omega), qb_s]
    refine ⟨_, rfl, rfl, (show qa_u q2 90 k (nI k) 89 0 = q2 89 0 from qb_uA (by omega)).trans g2, fun p hp => ?_, fun a j ha => ?_⟩
    · dsimp only
      rw [qb_uJ]
      by_cases e : p = k
      · rw [if_pos e, e]
      · rw [if_neg e]; exact g3 p (by omega)
    · dsimp only
      rw [qb_uA (by omega)]; exact g4 a j ha
  · rintro ⟨q1, q2⟩ ⟨g1, g2, g3, g4⟩
    dsimp only at g1 g2 g3 g4
    subst g1
    unfold mc_93_89_p12
    dsimp only
    rw [if_neg (show ¬ nI 6 < (6 : Int32) by decide)]
    exact ⟨_, rfl, g2, g3, g4⟩
theorem qo_cp (σ : qa_S) : (∀ p, p < 6 → qa_cp σ 90 0 91 0 6 91 p = σ 90 p) ∧ qb_F (fun a _ => a = 91) σ (qa_cp σ 90 0 91 0 6) := ⟨fun p hp => qb_cpI hp, fun a j ha => qb_cpA ha⟩
/-- the class looks through all orders -/
theorem qo_92 {mem : Int32} (hN : 5000 ≤ N) (hn : n ≤ 6) (hB : qv_B n t s T o b) (hC : qv_C n t s T o b σ) : ∃ best : Nat × Int32, best = qw_f (qo_G (fun k => qo_D n T (qo_a n k) mem)) (qt_fa n - 1) (0, qo_D n T (qo_a n 0) mem) ∧ (ma_92_3 N mem σ).1 = best.2 ∧ qo_at (qo_a n best.1) 91 (ma_92_3 N mem σ).2 ∧ qb_F (fun a j => (a = 89 ∧ j = 0) ∨ a = 90 ∨ a = 91) σ (ma_92_3 N mem σ).2 := by
  have n7 := hB.1
  have fl := qt_fal n (by omega)
  have f720 : qt_fa n ≤ 720 := by
    have : ∀ k, k < 7 → qt_fa k ≤ 720 := by decide
    exact this n (by omega)
  refine ⟨_, rfl, ?_⟩
  unfold ma_92_3
  dsimp only [qa_in]
  rw [hC.1]
  obtain ⟨c1, c2, c3⟩ := qo_93 (σ := σ) (N := N) (by omega) hn
  obtain ⟨μ, eμ⟩ : ∃ μ, μ = ma_93_89 N (nI n) σ := ⟨_, rfl⟩
  rw [← eμ] at c1 c2 c3 ⊢
  obtain ⟨D, eD⟩ : ∃ D : Nat → Int32, D = fun k => qo_D n T (qo_a n k) mem := ⟨_, rfl⟩
  have eD0 : qo_D n T (qo_a n 0) mem = D 0 := by rw [eD]
  rw [eD0, ← eD]
  -- after k orders (k at least 1): what is the best of them
  refine qb_lp (fun (k : Nat) (q : Int32 × Int32 × qa_S) => q.1 = nI k ∧ k < qt_fa n ∧ q.2.2 89 0 = nI n ∧ qo_at (qo_a n k) 90 q.2.2 ∧ (0 < k → q.2.1 = (qw_f (qo_G D) (k - 1) (0, D 0)).2 ∧ qo_at (qo_a n (qw_f (qo_G D) (k - 1) (0, D 0)).1) 91 q.2.2) ∧ qb_F (fun a j => (a = 89 ∧ j = 0) ∨ a = 90 ∨ a = 91) σ q.2.2) (fun (q : Int32 × Int32 × qa_S) => q.2.1 = (qw_f (qo_G D) (qt_fa n - 1) (0, D 0)).2 ∧ qo_at (qo_a n (qw_f (qo_G D) (qt_fa n - 1) (0, D 0)).1) 91 q.2.2 ∧ qb_F (fun a j => (a = 89 ∧ j = 0) ∨ a = 90 ∨ a = 91) σ q.2.2) (qt_fa n) (fun k q hk hq => ?_) (fun q hq => absurd hq.2.1 (Nat.lt_irrefl _)) N 0 _ (Nat.zero_le _) (by omega) ⟨rfl, by omega, c1, fun p hp => (c2 p hp).trans (congrArg nI (qo_id n (by omega) p hp).symm), fun h => absurd h (Nat.lt_irrefl 0), qb_Ft c3 qb_Fr (fun a j h => by omega) (fun a j h => h)⟩
  obtain ⟨q1, q2, q3⟩ := q
  obtain ⟨g1, -, g3, g4, g5, g6⟩ := hq
  dsimp only at g1 g3 g4 g5 g6
  subst g1
  have C3 := qv_CF g6 (fun a j h c => by omega) hC n7
  have d1 : ma_94_3 N mem q3 = D k := by
    rw [eD]
    exact qo_94 (by omega) hn hB C3 g3 g4 (fun p hp => (qo_lay hn hk hp).1)
  obtain ⟨cp1, cp2⟩ := qo_cp q3
  -- the best with this one
  obtain ⟨bst, ebst⟩ : ∃ bst, bst = qw_f (qo_G D) k (0, D 0) := ⟨_, rfl⟩
  have val : (if nI k = 0 then D k else (if D k < q2 then D k else q2)) = bst.2 := by
    rw [ebst]
    by_cases z : k = 0
    · subst z; rfl
    · obtain ⟨j, rfl⟩ : ∃ j, k = j + 1 := ⟨k - 1, by omega⟩
      rw [if_neg (fun c => z ((qw_z (by omega)).mp c)), (g5 (by omega)).1, Nat.add_sub_cancel, qw_fs]
      unfold qo_G
      rw [show 1 + j = j + 1 by omega]
      split <;> rfl
  have mm : ∃ m8, m8 = (if nI k = 0 then qa_cp q3 90 0 91 0 6 else (if D k < q2 then qa_cp q3 90 0 91 0 6 else q3)) ∧ qo_at (qo_a n bst.1) 91 m8 ∧ qb_F (fun a _ => a = 91) q3 m8 := by
    refine ⟨_, rfl, ?_⟩
    rw [ebst]
    by_cases z : k = 0
    · subst z
      rw [if_pos (show nI 0 = 0 from rfl)]
      exact ⟨fun p hp => (cp1 p hp).trans (g4 p hp), cp2⟩
    · obtain ⟨j, rfl⟩ : ∃ j, k = j + 1 := ⟨k - 1, by omega⟩
      rw [if_neg (fun c => z ((qw_z (by omega)).mp c)), qw_fs]
      have g5' := g5 (by omega)
      rw [Nat.add_sub_cancel] at g5'
      rw [g5'.1]
      unfold qo_G
      rw [show 1 + j = j + 1 by omega]
      by_cases c : D (j + 1) < (qw_f (qo_G D) j (0, D 0)).2
      · have c' : D (j + 1) < (qw_f (fun k (a : Nat × Int32) => if D (1 + k) < a.2 then (1 + k, D (1 + k)) else a) j (0, D 0)).2 := c
        rw [if_pos c', if_pos c']
        exact ⟨fun p hp => (cp1 p hp).trans (g4 p hp), cp2⟩
      · have c' : ¬ D (j + 1) < (qw_f (fun k (a : Nat × Int32) => if D (1 + k) < a.2 then (1 + k, D (1 + k)) else a) j (0, D 0)).2 := c
        rw [if_neg c', if_neg c']
        exact ⟨g5'.2, qb_Fr⟩
  obtain ⟨m8, em8, h91, F8⟩ := mm
  unfold mc_92_3_p18
  dsimp only [qa_in]
  rw [if_pos (show nI k < (720 : Int32) from qb_ltT (b := 720) (by omega) (by omega)), d1, val, ← em8, qb_s]
  have at8 : qo_at (qo_a n k) 90 m8 := fun p hp => (F8 90 p (by omega)).trans (g4 p hp)
  obtain ⟨n1, n2⟩ := qo_96 (N := N) (by omega) hn ((F8 89 0 (by omega)).trans g3) at8 (fun p => qo_al)
  have F6 : qb_F (fun a j => (a = 89 ∧ j = 0) ∨ a = 90 ∨ a = 91) σ m8 := qb_Ft g6 F8 (fun a j h => h) (fun a j h => by omega)
  by_cases last : k + 1 = qt_fa n
  · rw [n1 (qo_end hn last), if_pos rfl]
    refine Or.inr ⟨_, rfl, ?_⟩
    have ek : qt_fa n - 1 = k := by omega
    rw [ek, ← ebst]
    exact ⟨rfl, h91, F6⟩
  · obtain ⟨x1, x2⟩ := qo_nxt hn (show k + 1 < qt_fa n by omega)
    obtain ⟨y1, y2, y3⟩ := n2 x1
    rw [y1, if_neg (show ¬ (1 : Int32) = 0 by decide)]
    refine Or.inl ⟨_, rfl, rfl, by omega, ?_, fun p hp => ?_, fun _ => ?_, ?_⟩
    · dsimp only
      rw [y3 89 0 (by omega), F8 89 0 (by omega)]; exact g3
    · dsimp only
      rw [y2 p hp, x2 p hp]
    · rw [Nat.add_sub_cancel, ← ebst]
      exact ⟨rfl, fun p hp => (y3 91 p (by omega)).trans (h91 p hp)⟩
    · exact qb_Ft F6 y3 (fun a j h => h) (fun a j h => by omega)
theorem qc_91 {xx yy : Prop} (hN : 5000 ≤ N) (hI : qb_I xx yy σ) (x1 x2 : Int32) : (ma_91_3 N x1 x2 σ).1 = (ma_212_99 N x1 x2 (ma_91_3 N x1 x2 σ).2).1 := by
  obtain ⟨n, t, s, T, o, b, B, C, P⟩ := qv_get hI
  have F : qb_F qb_sm2 σ (ma_91_3 N x1 x2 σ).2 := mf_91_3 qb_hw (qb_hm (by omega)) qb_Fr
  suffices h : ∃ v, (ma_91_3 N x1 x2 σ).1 = v ∧ ∀ τ, qv_P n t s T o b (qa_u τ 99 9 0) → (∀ j, j < 6 → qa_u τ 99 9 0 106 j = σ 26 j) → (ma_212_99 N x1 x2 τ).1 = v by
    obtain ⟨v, h1, h2⟩ := h
    exact h1.trans (h2 _ (qv_P2 F P) (fun j hj => by rw [qb_uA (by omega), F 106 j (by unfold qb_sm2 qb_sc; omega)]; exact ((qb_alT hI hj).2.2).symm)).symm
  have n7 := B.1
  have t6 := B.2.1
  have m1 : (-1 : Int32) < 0 := by decide
  have m3 : (-3 : Int32) < 0 := by decide
  have m4 : (-4 : Int32) < 0 := by decide
  have z00 : ¬ (0 : Int32) < 0 := by decide
  unfold ma_91_3 ma_212_99
  dsimp only [qa_in]
  rcases qw_t t6 x1 with ⟨h1, h2⟩ | ⟨u, hu, rfl, h1, h2⟩
  · rw [if_pos (h1 σ C.2.1), qb_9_1]
    exact ⟨_, rfl, fun τ hP _ => by rw [if_pos (h2 _ hP.2.1), if_pos m1]; rfl⟩
  rw [if_neg (h1 σ C.2.1)]
  by_cases c4 : x2 < -1
  · rw [if_pos c4, qb_9_4]
    exact ⟨_, rfl, fun τ hP _ => by rw [if_neg (h2 _ hP.2.1), if_pos c4, if_pos m4]; rfl⟩
  rw [if_neg c4]
  have c6 : ∀ z : Int32, z = nI n → (6 < z ↔ 6 < n) := fun z hz => by rw [hz]; exact qb_lt (a := 6) (by omega) (by omega)
  by_cases c3 : 6 < n
  · rw [if_pos ((c6 _ C.1).mpr c3), qb_9_3]
    exact ⟨_, rfl, fun τ hP _ => by rw [if_neg (h2 _ hP.2.1), if_neg c4, if_pos ((c6 _ hP.1).mpr c3), if_pos m3]; rfl⟩
  rw [if_neg (fun h => c3 ((c6 _ C.1).mp h)), qb_n (k := u) (by omega)]
  have n6 : n ≤ 6 := by omega
  have fl := qt_fal n (by omega)
  have f720 : qt_fa n ≤ 720 := by
    have : ∀ k, k < 7 → qt_fa k ≤ 720 := by decide
    exact this n (by omega)
  obtain ⟨best, eb, r1, r2, r3⟩ := qo_92 (N := N) (mem := σ 26 u) hN n6 B C
  have bl : best.1 < qt_fa n := by
    have := qo_Gl (D := fun k => qo_D n T (qo_a n k) (σ 26 u)) (z := qo_D n T (qo_a n 0) (σ 26 u)) (qt_fa n - 1)
    rw [← eb] at this
    omega
  obtain ⟨r, er⟩ : ∃ r, r = ma_92_3 N (σ 26 u) σ := ⟨_, rfl⟩
  rw [← er] at r1 r2 r3 ⊢
  -- the reference's loop
  have ref : ∀ τ, qv_P n t s T o b (qa_u τ 99 9 0) → (∀ j, j < 6 → qa_u τ 99 9 0 106 j = σ 26 j) → ∃ m, qa_wh (fun s => s) (mc_212_99_p80 N (nI u) x2 (ma_215 N ((ma_213_99 N (nI u) 0 (ma_181_99 N (qa_u τ 99 9 0))).2 99 0))) N ((1 : Int32), (0 : Int32), (ma_213_99 N (nI u) 0 (ma_181_99 N (qa_u τ 99 9 0))).1, (ma_213_99 N (nI u) 0 (ma_181_99 N (qa_u τ 99 9 0))).2) = (nI (1 + (qt_fa n - 1)), nI best.1, best.2, m) ∧ qv_R n t s T o b m := fun τ hP hm => by
    obtain ⟨R, F1⟩ := qv_181 (N := N) (by omega) n7 hP
    have hm1 : ∀ j, j < 6 → ma_181_99 N (qa_u τ 99 9 0) 106 j = σ 26 j := fun j hj => (F1 106 j (by omega)).trans (hm j hj)
    obtain ⟨ρ, eρ⟩ : ∃ ρ, ρ = ma_181_99 N (qa_u τ 99 9 0) := ⟨_, rfl⟩
    rw [← eρ] at R hm1 ⊢
    obtain ⟨d0, d1⟩ := qo_213 (N := N) (k := 0) (by omega) n6 B R (by omega) (hm1 u (by omega)) (by omega)
    have e0 : (0 : Int32) = nI 0 := rfl
    have R1 := qv_RF d1 (fun a j h c => by omega) R
    obtain ⟨r8, er8⟩ : ∃ r8, r8 = ma_213_99 N (nI u) (nI 0) ρ := ⟨_, rfl⟩
    rw [← er8] at d0 d1 R1
    have er8' : ma_213_99 N (nI u) 0 ρ = r8 := er8.symm
    rw [er8', d0, R1.1, qt_215 (by omega) n (by omega)]
    obtain ⟨m, e1, e2⟩ := qw_ln (e := fun s => s) (step := mc_212_99_p80 N (nI u) x2 (nI (qt_fa n))) (N := N) (fun _ _ => True) (fun m => qb_F (fun a _ => a = 121) ρ m) (fun k (a : Nat × Int32) m => (nI (1 + k), nI a.1, a.2, m)) (fun a m => (nI (1 + (qt_fa n - 1)), nI a.1, a.2, m)) (qo_G (fun k => qo_D n T (qo_a n k) (σ 26 u))) (qt_fa n - 1) (0, qo_D n T (qo_a n 0) (σ 26 u)) r8.2 (by omega) trivial d1 (fun k a m hk _ hm2 => by
      have R2 := qv_RF hm2 (fun a j h c => by omega) R
      obtain ⟨j1, j2⟩ := qo_213 (N := N) (k := 1 + k) (by omega) n6 B R2 (show u < 6 by omega) ((hm2 106 u (by omega)).trans (hm1 u (by omega))) (by omega)
      refine ⟨⟨(ma_213_99 N (nI u) (nI (1 + k)) m).2, ?_, qb_Ft hm2 j2 (fun a j h => h) (fun a j h => h)⟩, trivial⟩
      unfold mc_212_99_p80
      dsimp only [qa_in]
      rw [if_pos (qb_ltT (show 1 + k < qt_fa n by omega) (by omega)), j1, qb_s]
      unfold qo_G
      dsimp only
      by_cases c : qo_D n T (qo_a n (1 + k)) (σ 26 u) < a.2
      · rw [if_pos c, if_pos c, if_pos c]; rfl
      · rw [if_neg c, if_neg c, if_neg c]; rfl) (fun a m _ hm2 => by
      unfold mc_212_99_p80
      dsimp only
      rw [if_neg (show ¬ nI (1 + (qt_fa n - 1)) < nI (qt_fa n) from qb_ltF (by omega) (by omega))]
      exact ⟨_, rfl, hm2⟩)
    refine ⟨m, ?_, qv_RF e2 (fun a j h c => by omega) R⟩
    rw [← eb] at e1
    exact e1
  have rr : ∀ τ, qv_P n t s T o b (qa_u τ 99 9 0) → (if ma_171_99 (nI u) (qa_u τ 99 9 0) = 0 then (-1 : Int32) else (if x2 < -1 then -4 else (if 6 < qa_u τ 99 9 0 99 0 then -3 else 0))) = 0 := fun τ hP => by
    rw [if_neg (h2 _ hP.2.1), if_neg c4, if_neg (fun h => c3 ((c6 _ hP.1).mp h))]
  by_cases c1 : x2 = -1
  · rw [if_pos c1]
    refine ⟨_, rfl, fun τ hP hm => ?_⟩
    have l0 : x2 < 0 := by rw [c1]; decide
    obtain ⟨m, e1, -⟩ := ref τ hP hm
    rw [rr τ hP, if_neg z00, e1, if_pos l0]
    exact r1.symm
  · rw [if_neg c1]
    obtain ⟨i, hi, rfl⟩ := qw_ge c4 c1
    have l0 : ¬ nI i < (0 : Int32) := qw_n0 hi
    refine ⟨_, rfl, fun τ hP hm => ?_⟩
    obtain ⟨m, e1, R2⟩ := ref τ hP hm
    rw [rr τ hP, if_neg z00, e1, if_neg l0]
    dsimp only
    obtain ⟨w1, w2⟩ := qo_214 (τ := m) (N := N) (by omega) n6 bl
    obtain ⟨ν, eν⟩ : ∃ ν, ν = ma_214_99 N (nI best.1) (m 99 0) m := ⟨_, rfl⟩
    have eν' : ma_214_99 N (nI best.1) (nI n) m = ν := by rw [eν, R2.1]
    rw [eν'] at w1 w2
    rw [← eν]
    have ci : (nI i < ν 99 0) ↔ i < n := by rw [w2 99 0 (by omega), R2.1]; exact qb_lt hi (by omega)
    have cj : (nI i < r.2 4 0) ↔ i < n := by rw [r3 4 0 (by omega), C.1]; exact qb_lt hi (by omega)
    by_cases hc : i < n
    · rw [if_pos (ci.mpr hc), if_pos (cj.mpr hc), qb_n hi, w1 i hc, r2 i (by omega)]
    · rw [if_neg (fun h => hc (ci.mp h)), if_neg (fun h => hc (cj.mp h))]
end QV
