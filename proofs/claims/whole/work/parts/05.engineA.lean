/-! ===== methods that make nothing: the shape stays ===== -/
abbrev YQi : Type := ZI → ZJ → Int32 → Prop
abbrev YQl : Type := ZI → ZJ → Int64 → Prop
abbrev YQv : Type := ZI → ZJ → Prop
abbrev YQr : Type := ZI → ZJ → Nat → Prop
abbrev YTi : Type := List Value → ZS → ZI → ZJ → YQi → Prop
abbrev YTl : Type := List Value → ZS → ZI → ZJ → YQl → Prop
abbrev YTv : Type := List Value → ZS → ZI → ZJ → YQv → Prop
abbrev YTr : Type := List Value → ZS → ZI → ZJ → YQr → Prop
def yi (T : YTi) : ZT := fun As S I J q => T As S I J (fun I J x => q S I J (some (.int x)))
def yl (T : YTl) : ZT := fun As S I J q => T As S I J (fun I J x => q S I J (some (.long x)))
def yv (T : YTv) : ZT := fun As S I J q => T As S I J (fun I J => q S I J none)
def yr (T : YTr) : ZT := fun As S I J q => T As S I J (fun I J x => q S I J (some (.ref x)))
def qi (S0 : ZS) (q : YQi) : ZQi := fun S I J x => S = S0 ∧ q I J x
def ql (S0 : ZS) (q : YQl) : ZQl := fun S I J x => S = S0 ∧ q I J x
def qv (S0 : ZS) (q : YQv) : ZQv := fun S I J => S = S0 ∧ q I J
def qr (S0 : ZS) (q : YQr) : ZQr := fun S I J x => S = S0 ∧ q I J x
def ypi (T : ZTi) : YTi := fun As S I J q => T As S I J (qi S q)
def ypl (T : ZTl) : YTl := fun As S I J q => T As S I J (ql S q)
def ypv (T : ZTv) : YTv := fun As S I J q => T As S I J (qv S q)
def ypr (T : ZTr) : YTr := fun As S I J q => T As S I J (qr S q)
theorem Met_mono {l : Launch} {y : MethodName} {ws : List Cond} {rm : Room} {Pc : Array Value → State → Prop} {Qc Qc' : Array Value → State → Outcome → State → Prop} {mc ms : Nat} {free : Addr → Prop} (h : Met l y ws rm Pc Qc mc ms free) (hq : ∀ a st o t, Qc a st o t → Qc' a st o t) : Met l y ws rm Pc Qc' mc ms free := by
  intro p e h1 h2 h3 s m args below h4 h5 h6 h7
  obtain ⟨n, o, g1, g2, g3, g4, g5⟩ := h p e h1 h2 h3 s m args below h4 h5 h6 h7
  exact ⟨n, o, g1, g2, g3, hq _ _ _ _ g4, g5⟩
theorem zSp_mono {l : Launch} {y : MethodName} {b : ByteArray} {nL : Nat} {ret : Option FieldType} {rm : Room} {mc ms : Nat} {T T' : ZT} (h : zSp l y b nL ret rm mc ms T) (hT : ∀ As S I J q, T' As S I J q → ∃ q', T As S I J q' ∧ ∀ S I J v, q' S I J v → q S I J v) : zSp l y b nL ret rm mc ms T' := by
  intro X As S I J q hq
  obtain ⟨q', h1, h2⟩ := hT As S I J q hq
  refine Met_mono (h X As S I J q' h1) (fun a st o t ht => ?_)
  obtain ⟨⟨v, S', I', J', e1, e2, e3⟩, e4⟩ := ht
  exact ⟨⟨v, S', I', J', e1, h2 _ _ _ _ e2, e3⟩, e4⟩
theorem zSp_yi {l : Launch} {y : MethodName} {b : ByteArray} {nL : Nat} {ret : Option FieldType} {rm : Room} {mc ms : Nat} {T : ZTi} (h : zSp l y b nL ret rm mc ms (zti T)) : zSp l y b nL ret rm mc ms (yi (ypi T)) :=
  zSp_mono h (fun As S I J q hq => ⟨fun S' I' J' v => S' = S ∧ q S' I' J' v, by
    have e : (qi S (fun I J x => q S I J (some (.int x)))) = (fun S' I' J' x => S' = S ∧ q S' I' J' (some (.int x))) := by
      funext S' I' J' x
      apply propext
      constructor
      · rintro ⟨h1, h2⟩; subst h1; exact ⟨rfl, h2⟩
      · rintro ⟨h1, h2⟩; subst h1; exact ⟨rfl, h2⟩
    simp only [yi, ypi, e] at hq
    exact hq, fun _ _ _ _ h => h.2⟩)
theorem zSp_yl {l : Launch} {y : MethodName} {b : ByteArray} {nL : Nat} {ret : Option FieldType} {rm : Room} {mc ms : Nat} {T : ZTl} (h : zSp l y b nL ret rm mc ms (ztl T)) : zSp l y b nL ret rm mc ms (yl (ypl T)) :=
  zSp_mono h (fun As S I J q hq => ⟨fun S' I' J' v => S' = S ∧ q S' I' J' v, by
    have e : (ql S (fun I J x => q S I J (some (.long x)))) = (fun S' I' J' x => S' = S ∧ q S' I' J' (some (.long x))) := by
      funext S' I' J' x
      apply propext
      constructor
      · rintro ⟨h1, h2⟩; subst h1; exact ⟨rfl, h2⟩
      · rintro ⟨h1, h2⟩; subst h1; exact ⟨rfl, h2⟩
    simp only [yl, ypl, e] at hq
    exact hq, fun _ _ _ _ h => h.2⟩)
theorem zSp_yr {l : Launch} {y : MethodName} {b : ByteArray} {nL : Nat} {ret : Option FieldType} {rm : Room} {mc ms : Nat} {T : ZTr} (h : zSp l y b nL ret rm mc ms (ztr T)) : zSp l y b nL ret rm mc ms (yr (ypr T)) :=
  zSp_mono h (fun As S I J q hq => ⟨fun S' I' J' v => S' = S ∧ q S' I' J' v, by
    have e : (qr S (fun I J x => q S I J (some (.ref x)))) = (fun S' I' J' x => S' = S ∧ q S' I' J' (some (.ref x))) := by
      funext S' I' J' x
      apply propext
      constructor
      · rintro ⟨h1, h2⟩; subst h1; exact ⟨rfl, h2⟩
      · rintro ⟨h1, h2⟩; subst h1; exact ⟨rfl, h2⟩
    simp only [yr, ypr, e] at hq
    exact hq, fun _ _ _ _ h => h.2⟩)
theorem zSp_yv {l : Launch} {y : MethodName} {b : ByteArray} {nL : Nat} {ret : Option FieldType} {rm : Room} {mc ms : Nat} {T : ZTv} (h : zSp l y b nL ret rm mc ms (ztv T)) : zSp l y b nL ret rm mc ms (yv (ypv T)) :=
  zSp_mono h (fun As S I J q hq => ⟨fun S' I' J' v => S' = S ∧ q S' I' J' v, by
    have e : (qv S (fun I J => q S I J none)) = (fun S' I' J' => S' = S ∧ q S' I' J' none) := by
      funext S' I' J'
      apply propext
      constructor
      · rintro ⟨h1, h2⟩; subst h1; exact ⟨rfl, h2⟩
      · rintro ⟨h1, h2⟩; subst h1; exact ⟨rfl, h2⟩
    simp only [yv, ypv, e] at hq
    exact hq, fun _ _ _ _ h => h.2⟩)
