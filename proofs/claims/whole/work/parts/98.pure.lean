theorem pure_all : PureAll := by
  intro k1 k2 nb L mb xs hL hsz
  obtain ⟨rfl, h64, hnb⟩ := hsz
  exact pure_all' k1 k2 nb L xs hL h64 hnb
