/-! ALL METHODS AT ONCE -/
theorem allG : ∀ mi, mi ≠ 32 → AllS mi 0 (cdm mi) := fun mi => match mi with
  | 0 => fun _ => g0
  | 1 => fun _ => g1
  | 2 => fun _ => g2
  | 3 => fun _ => g3
  | 4 => fun _ => g4
  | 5 => fun _ => g5
  | 6 => fun _ => g6
  | 7 => fun _ => g7
  | 8 => fun _ => g8
  | 9 => fun _ => g9
  | 10 => fun _ => g10
  | 11 => fun _ => g11
  | 12 => fun _ => g12
  | 13 => fun _ => g13
  | 14 => fun _ => g14
  | 15 => fun _ => g15
  | 16 => fun _ => g16
  | 17 => fun _ => g17
  | 18 => fun _ => g18
  | 19 => fun _ => g19
  | 20 => fun _ => g20
  | 21 => fun _ => g21
  | 22 => fun _ => g22
  | 23 => fun _ => g23
  | 24 => fun _ => g24
  | 25 => fun _ => g25
  | 26 => fun _ => g26
  | 27 => fun _ => g27
  | 28 => fun _ => g28
  | 29 => fun _ => g29
  | 30 => fun _ => g30
  | 31 => fun _ => g31
  | 32 => fun h => absurd rfl h
  | 33 => fun _ => g33
  | 34 => fun _ => g34
  | 35 => fun _ => g35
  | 36 => fun _ => g36
  | 37 => fun _ => g37
  | 38 => fun _ => g38
  | 39 => fun _ => g39
  | 40 => fun _ => g40
  | 41 => fun _ => g41
  | 42 => fun _ => g42
  | 43 => fun _ => g43
  | 44 => fun _ => g44
  | 45 => fun _ => g45
  | 46 => fun _ => g46
  | 47 => fun _ => g47
  | 48 => fun _ => g48
  | 49 => fun _ => g49
  | 50 => fun _ => g50
  | 51 => fun _ => g51
  | 52 => fun _ => g52
  | 53 => fun _ => g53
  | 54 => fun _ => g54
  | 55 => fun _ => g55
  | 56 => fun _ => g56
  | 57 => fun _ => g57
  | 58 => fun _ => g58
  | 59 => fun _ => g59
  | 60 => fun _ => g60
  | 61 => fun _ => g61
  | 62 => fun _ => g62
  | 63 => fun _ => g63
  | 64 => fun _ => g64
  | 65 => fun _ => g65
  | 66 => fun _ => g66
  | 67 => fun _ => g67
  | 68 => fun _ => g68
  | 69 => fun _ => g69
  | 70 => fun _ => g70
  | 71 => fun _ => g71
  | 72 => fun _ => g72
  | 73 => fun _ => g73
  | 74 => fun _ => g74
  | 75 => fun _ => g75
  | 76 => fun _ => g76
  | 77 => fun _ => g77
  | 78 => fun _ => g78
  | 79 => fun _ => g79
  | 80 => fun _ => g80
  | 81 => fun _ => g81
  | 82 => fun _ => g82
  | 83 => fun _ => g83
  | 84 => fun _ => g84
  | 85 => fun _ => g85
  | 86 => fun _ => g86
  | 87 => fun _ => g87
  | 88 => fun _ => g88
  | 89 => fun _ => g89
  | 90 => fun _ => g90
  | 91 => fun _ => g91
  | 92 => fun _ => g92
  | 93 => fun _ => g93
  | 94 => fun _ => g94
  | 95 => fun _ => g95
  | 96 => fun _ => g96
  | 97 => fun _ => g97
  | 98 => fun _ => g98
  | 99 => fun _ => g99
  | 100 => fun _ => g100
  | 101 => fun _ => g101
  | 102 => fun _ => g102
  | 103 => fun _ => g103
  | 104 => fun _ => g104
  | 105 => fun _ => g105
  | 106 => fun _ => g106
  | 107 => fun _ => g107
  | 108 => fun _ => g108
  | 109 => fun _ => g109
  | 110 => fun _ => g110
  | 111 => fun _ => g111
  | 112 => fun _ => g112
  | 113 => fun _ => g113
  | 114 => fun _ => g114
  | 115 => fun _ => g115
  | 116 => fun _ => g116
  | 117 => fun _ => g117
  | 118 => fun _ => g118
  | 119 => fun _ => g119
  | 120 => fun _ => g120
  | 121 => fun _ => g121
  | 122 => fun _ => g122
  | 123 => fun _ => g123
  | 124 => fun _ => g124
  | 125 => fun _ => g125
  | 126 => fun _ => g126
  | 127 => fun _ => g127
  | 128 => fun _ => g128
  | 129 => fun _ => g129
  | 130 => fun _ => g130
  | 131 => fun _ => g131
  | _ + 132 => fun _ => trivial
theorem plain_all : ∀ mi, plainName (mY mi).cls = true := fun mi => match mi with
  | 0 => by decide +kernel
  | 1 => by decide +kernel
  | 2 => by decide +kernel
  | 3 => by decide +kernel
  | 4 => by decide +kernel
  | 5 => by decide +kernel
  | 6 => by decide +kernel
  | 7 => by decide +kernel
  | 8 => by decide +kernel
  | 9 => by decide +kernel
  | 10 => by decide +kernel
  | 11 => by decide +kernel
  | 12 => by decide +kernel
  | 13 => by decide +kernel
  | 14 => by decide +kernel
  | 15 => by decide +kernel
  | 16 => by decide +kernel
  | 17 => by decide +kernel
  | 18 => by decide +kernel
  | 19 => by decide +kernel
  | 20 => by decide +kernel
  | 21 => by decide +kernel
  | 22 => by decide +kernel
  | 23 => by decide +kernel
  | 24 => by decide +kernel
  | 25 => by decide +kernel
  | 26 => by decide +kernel
  | 27 => by decide +kernel
  | 28 => by decide +kernel
  | 29 => by decide +kernel
  | 30 => by decide +kernel
  | 31 => by decide +kernel
  | 32 => by decide +kernel
  | 33 => by decide +kernel
  | 34 => by decide +kernel
  | 35 => by decide +kernel
  | 36 => by decide +kernel
  | 37 => by decide +kernel
  | 38 => by decide +kernel
  | 39 => by decide +kernel
  | 40 => by decide +kernel
  | 41 => by decide +kernel
  | 42 => by decide +kernel
  | 43 => by decide +kernel
  | 44 => by decide +kernel
  | 45 => by decide +kernel
  | 46 => by decide +kernel
  | 47 => by decide +kernel
  | 48 => by decide +kernel
  | 49 => by decide +kernel
  | 50 => by decide +kernel
  | 51 => by decide +kernel
  | 52 => by decide +kernel
  | 53 => by decide +kernel
  | 54 => by decide +kernel
  | 55 => by decide +kernel
  | 56 => by decide +kernel
  | 57 => by decide +kernel
  | 58 => by decide +kernel
  | 59 => by decide +kernel
  | 60 => by decide +kernel
  | 61 => by decide +kernel
  | 62 => by decide +kernel
  | 63 => by decide +kernel
  | 64 => by decide +kernel
  | 65 => by decide +kernel
  | 66 => by decide +kernel
  | 67 => by decide +kernel
  | 68 => by decide +kernel
  | 69 => by decide +kernel
  | 70 => by decide +kernel
  | 71 => by decide +kernel
  | 72 => by decide +kernel
  | 73 => by decide +kernel
  | 74 => by decide +kernel
  | 75 => by decide +kernel
  | 76 => by decide +kernel
  | 77 => by decide +kernel
  | 78 => by decide +kernel
  | 79 => by decide +kernel
  | 80 => by decide +kernel
  | 81 => by decide +kernel
  | 82 => by decide +kernel
  | 83 => by decide +kernel
  | 84 => by decide +kernel
  | 85 => by decide +kernel
  | 86 => by decide +kernel
  | 87 => by decide +kernel
  | 88 => by decide +kernel
  | 89 => by decide +kernel
  | 90 => by decide +kernel
  | 91 => by decide +kernel
  | 92 => by decide +kernel
  | 93 => by decide +kernel
  | 94 => by decide +kernel
  | 95 => by decide +kernel
  | 96 => by decide +kernel
  | 97 => by decide +kernel
  | 98 => by decide +kernel
  | 99 => by decide +kernel
  | 100 => by decide +kernel
  | 101 => by decide +kernel
  | 102 => by decide +kernel
  | 103 => by decide +kernel
  | 104 => by decide +kernel
  | 105 => by decide +kernel
  | 106 => by decide +kernel
  | 107 => by decide +kernel
  | 108 => by decide +kernel
  | 109 => by decide +kernel
  | 110 => by decide +kernel
  | 111 => by decide +kernel
  | 112 => by decide +kernel
  | 113 => by decide +kernel
  | 114 => by decide +kernel
  | 115 => by decide +kernel
  | 116 => by decide +kernel
  | 117 => by decide +kernel
  | 118 => by decide +kernel
  | 119 => by decide +kernel
  | 120 => by decide +kernel
  | 121 => by decide +kernel
  | 122 => by decide +kernel
  | 123 => by decide +kernel
  | 124 => by decide +kernel
  | 125 => by decide +kernel
  | 126 => by decide +kernel
  | 127 => by decide +kernel
  | 128 => by decide +kernel
  | 129 => by decide +kernel
  | 130 => by decide +kernel
  | 131 => by decide +kernel
  | _ + 132 => (by decide +kernel : plainName x.cls = true)
theorem allG_ss (mi : Nat) (h : mi ≠ 32) : ∀ pc f, (cdm mi)[pc]? = some f → SS mi pc f := fun pc f hf => by
  have := (allG mi h).at hf
  rwa [Nat.zero_add] at this
/-- what the abstract machine answers, the method does: for every method but the law and the constructor with the text -/
theorem am_all (N : Nat) (hcl0 : ∀ i k, i < N → lk i k < N) (hN40 : 40 ≤ N) (l : Launch) (adr : Nat → Nat) (D : va_G) (cI cC cG : ClassId) (hi : ∀ i j, i < N → j < N → adr i = adr j → i = j) (m : Nat) (as : List AV) (σ : Sg) (r : AV × Sg) (h : Cal m as σ = some r) (hm : mFr m ≤ 5) (hA : as.all gA = true) (hn : as.length ≤ nlm m) (hlow : low N as) : Ok N l adr D cI cC cG m as σ r := by
  refine am_ok N hcl0 hN40 l adr D cI cC cG hi (fun mi => mFr mi ≤ 5) (fun mi hg => allG_ss mi (fun z => ?_)) (fun mi m' hg hf => ?_) (fun mi _ => plain_all mi) (fun mi hg z => ?_) 6 m (by omega) hm as σ r h hA hn hlow
  · rw [z] at hg
    exact absurd hg (by decide)
  · show mFr m' ≤ 5
    have hg : mFr mi ≤ 5 := hg
    omega
  · rw [z] at hg
    exact absurd hg (by decide)
