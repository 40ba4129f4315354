/-! THE LAW: cases 42 .. (written by wip/gen/law.py) -/
theorem dL_law_1633 : decode cL_law 1633 = .ok (.aload_n 1, 1) := by decide +kernel
theorem dL_law_1634 : decode cL_law 1634 = .ok (.invokevirtual 196, 3) := by decide +kernel
theorem dL_law_1637 : decode cL_law 1637 = .ok (.aload_n 2, 1) := by decide +kernel
theorem dL_law_1638 : decode cL_law 1638 = .ok (.invokevirtual 199, 3) := by decide +kernel
theorem dL_law_1641 : decode cL_law 1641 = .ok (.if_icmp .eq 369, 3) := by decide +kernel
theorem dL_law_1646 : decode cL_law 1646 = .ok (.aload_n 1, 1) := by decide +kernel
theorem dL_law_1647 : decode cL_law 1647 = .ok (.aload_n 0, 1) := by decide +kernel
theorem dL_law_1648 : decode cL_law 1648 = .ok (.iload_n 3, 1) := by decide +kernel
theorem dL_law_1649 : decode cL_law 1649 = .ok (.iconst 1, 1) := by decide +kernel
theorem dL_law_1650 : decode cL_law 1650 = .ok (.iadd, 1) := by decide +kernel
theorem dL_law_1651 : decode cL_law 1651 = .ok (.iaload, 1) := by decide +kernel
theorem dL_law_1652 : decode cL_law 1652 = .ok (.invokevirtual 200, 3) := by decide +kernel
theorem dL_law_1655 : decode cL_law 1655 = .ok (.aload_n 2, 1) := by decide +kernel
theorem dL_law_1656 : decode cL_law 1656 = .ok (.aload_n 0, 1) := by decide +kernel
theorem dL_law_1657 : decode cL_law 1657 = .ok (.iload_n 3, 1) := by decide +kernel
theorem dL_law_1658 : decode cL_law 1658 = .ok (.iconst 1, 1) := by decide +kernel
theorem dL_law_1659 : decode cL_law 1659 = .ok (.iadd, 1) := by decide +kernel
theorem dL_law_1660 : decode cL_law 1660 = .ok (.iaload, 1) := by decide +kernel
theorem dL_law_1661 : decode cL_law 1661 = .ok (.invokevirtual 204, 3) := by decide +kernel
theorem dL_law_1664 : decode cL_law 1664 = .ok (.if_icmp .eq 346, 3) := by decide +kernel
theorem dL_law_1669 : decode cL_law 1669 = .ok (.aload_n 1, 1) := by decide +kernel
theorem dL_law_1670 : decode cL_law 1670 = .ok (.invokevirtual 205, 3) := by decide +kernel
theorem dL_law_1673 : decode cL_law 1673 = .ok (.aload_n 2, 1) := by decide +kernel
theorem dL_law_1674 : decode cL_law 1674 = .ok (.invokevirtual 208, 3) := by decide +kernel
theorem dL_law_1677 : decode cL_law 1677 = .ok (.if_icmp .eq 333, 3) := by decide +kernel
theorem dL_law_1682 : decode cL_law 1682 = .ok (.aload_n 1, 1) := by decide +kernel
theorem dL_law_1683 : decode cL_law 1683 = .ok (.aload_n 0, 1) := by decide +kernel
theorem dL_law_1684 : decode cL_law 1684 = .ok (.iload_n 3, 1) := by decide +kernel
theorem dL_law_1685 : decode cL_law 1685 = .ok (.iconst 1, 1) := by decide +kernel
theorem dL_law_1686 : decode cL_law 1686 = .ok (.iadd, 1) := by decide +kernel
theorem dL_law_1687 : decode cL_law 1687 = .ok (.iaload, 1) := by decide +kernel
theorem dL_law_1688 : decode cL_law 1688 = .ok (.invokevirtual 209, 3) := by decide +kernel
theorem dL_law_1691 : decode cL_law 1691 = .ok (.aload_n 2, 1) := by decide +kernel
theorem dL_law_1692 : decode cL_law 1692 = .ok (.aload_n 0, 1) := by decide +kernel
theorem dL_law_1693 : decode cL_law 1693 = .ok (.iload_n 3, 1) := by decide +kernel
theorem dL_law_1694 : decode cL_law 1694 = .ok (.iconst 1, 1) := by decide +kernel
theorem dL_law_1695 : decode cL_law 1695 = .ok (.iadd, 1) := by decide +kernel
theorem dL_law_1696 : decode cL_law 1696 = .ok (.iaload, 1) := by decide +kernel
theorem dL_law_1697 : decode cL_law 1697 = .ok (.invokevirtual 212, 3) := by decide +kernel
theorem dL_law_1700 : decode cL_law 1700 = .ok (.if_icmp .eq 310, 3) := by decide +kernel
theorem dL_law_1705 : decode cL_law 1705 = .ok (.aload_n 1, 1) := by decide +kernel
theorem dL_law_1706 : decode cL_law 1706 = .ok (.aload_n 0, 1) := by decide +kernel
theorem dL_law_1707 : decode cL_law 1707 = .ok (.iload_n 3, 1) := by decide +kernel
theorem dL_law_1708 : decode cL_law 1708 = .ok (.iconst 1, 1) := by decide +kernel
theorem dL_law_1709 : decode cL_law 1709 = .ok (.iadd, 1) := by decide +kernel
theorem dL_law_1710 : decode cL_law 1710 = .ok (.iaload, 1) := by decide +kernel
theorem dL_law_1711 : decode cL_law 1711 = .ok (.invokevirtual 213, 3) := by decide +kernel
theorem dL_law_1714 : decode cL_law 1714 = .ok (.aload_n 2, 1) := by decide +kernel
theorem dL_law_1715 : decode cL_law 1715 = .ok (.aload_n 0, 1) := by decide +kernel
theorem dL_law_1716 : decode cL_law 1716 = .ok (.iload_n 3, 1) := by decide +kernel
theorem dL_law_1717 : decode cL_law 1717 = .ok (.iconst 1, 1) := by decide +kernel
theorem dL_law_1718 : decode cL_law 1718 = .ok (.iadd, 1) := by decide +kernel
theorem dL_law_1719 : decode cL_law 1719 = .ok (.iaload, 1) := by decide +kernel
theorem dL_law_1720 : decode cL_law 1720 = .ok (.invokevirtual 216, 3) := by decide +kernel
theorem dL_law_1723 : decode cL_law 1723 = .ok (.if_icmp .eq 287, 3) := by decide +kernel
theorem dL_law_1728 : decode cL_law 1728 = .ok (.aload_n 1, 1) := by decide +kernel
theorem dL_law_1729 : decode cL_law 1729 = .ok (.aload_n 0, 1) := by decide +kernel
theorem dL_law_1730 : decode cL_law 1730 = .ok (.iload_n 3, 1) := by decide +kernel
theorem dL_law_1731 : decode cL_law 1731 = .ok (.iconst 1, 1) := by decide +kernel
theorem dL_law_1732 : decode cL_law 1732 = .ok (.iadd, 1) := by decide +kernel
theorem dL_law_1733 : decode cL_law 1733 = .ok (.iaload, 1) := by decide +kernel
theorem dL_law_1734 : decode cL_law 1734 = .ok (.invokevirtual 217, 3) := by decide +kernel
theorem dL_law_1737 : decode cL_law 1737 = .ok (.aload_n 2, 1) := by decide +kernel
theorem dL_law_1738 : decode cL_law 1738 = .ok (.aload_n 0, 1) := by decide +kernel
theorem dL_law_1739 : decode cL_law 1739 = .ok (.iload_n 3, 1) := by decide +kernel
theorem dL_law_1740 : decode cL_law 1740 = .ok (.iconst 1, 1) := by decide +kernel
theorem dL_law_1741 : decode cL_law 1741 = .ok (.iadd, 1) := by decide +kernel
theorem dL_law_1742 : decode cL_law 1742 = .ok (.iaload, 1) := by decide +kernel
theorem dL_law_1743 : decode cL_law 1743 = .ok (.invokevirtual 220, 3) := by decide +kernel
theorem dL_law_1746 : decode cL_law 1746 = .ok (.if_icmp .eq 264, 3) := by decide +kernel
theorem dL_law_1751 : decode cL_law 1751 = .ok (.aload_n 1, 1) := by decide +kernel
theorem dL_law_1752 : decode cL_law 1752 = .ok (.invokevirtual 221, 3) := by decide +kernel
theorem dL_law_1755 : decode cL_law 1755 = .ok (.aload_n 2, 1) := by decide +kernel
theorem dL_law_1756 : decode cL_law 1756 = .ok (.invokevirtual 224, 3) := by decide +kernel
theorem dL_law_1759 : decode cL_law 1759 = .ok (.if_icmp .eq 251, 3) := by decide +kernel
theorem dL_law_1764 : decode cL_law 1764 = .ok (.aload_n 1, 1) := by decide +kernel
theorem dL_law_1765 : decode cL_law 1765 = .ok (.invokevirtual 225, 3) := by decide +kernel
theorem dL_law_1768 : decode cL_law 1768 = .ok (.aload_n 2, 1) := by decide +kernel
theorem dL_law_1769 : decode cL_law 1769 = .ok (.invokevirtual 228, 3) := by decide +kernel
theorem dL_law_1772 : decode cL_law 1772 = .ok (.if_icmp .eq 238, 3) := by decide +kernel
theorem dL_law_1777 : decode cL_law 1777 = .ok (.aload_n 1, 1) := by decide +kernel
theorem dL_law_1778 : decode cL_law 1778 = .ok (.invokevirtual 229, 3) := by decide +kernel
theorem dL_law_1781 : decode cL_law 1781 = .ok (.aload_n 2, 1) := by decide +kernel
theorem dL_law_1782 : decode cL_law 1782 = .ok (.invokevirtual 232, 3) := by decide +kernel
theorem dL_law_1785 : decode cL_law 1785 = .ok (.if_icmp .eq 225, 3) := by decide +kernel
theorem dL_law_1790 : decode cL_law 1790 = .ok (.aload_n 1, 1) := by decide +kernel
theorem dL_law_1791 : decode cL_law 1791 = .ok (.invokevirtual 233, 3) := by decide +kernel
theorem dL_law_1794 : decode cL_law 1794 = .ok (.aload_n 2, 1) := by decide +kernel
theorem dL_law_1795 : decode cL_law 1795 = .ok (.invokevirtual 236, 3) := by decide +kernel
theorem dL_law_1798 : decode cL_law 1798 = .ok (.if_icmp .eq 212, 3) := by decide +kernel
theorem dL_law_1803 : decode cL_law 1803 = .ok (.aload_n 1, 1) := by decide +kernel
theorem dL_law_1804 : decode cL_law 1804 = .ok (.aload_n 0, 1) := by decide +kernel
theorem dL_law_1805 : decode cL_law 1805 = .ok (.iload_n 3, 1) := by decide +kernel
theorem dL_law_1806 : decode cL_law 1806 = .ok (.iconst 1, 1) := by decide +kernel
theorem dL_law_1807 : decode cL_law 1807 = .ok (.iadd, 1) := by decide +kernel
theorem dL_law_1808 : decode cL_law 1808 = .ok (.iaload, 1) := by decide +kernel
theorem dL_law_1809 : decode cL_law 1809 = .ok (.invokevirtual 237, 3) := by decide +kernel
theorem dL_law_1812 : decode cL_law 1812 = .ok (.aload_n 2, 1) := by decide +kernel
theorem dL_law_1813 : decode cL_law 1813 = .ok (.aload_n 0, 1) := by decide +kernel
theorem dL_law_1814 : decode cL_law 1814 = .ok (.iload_n 3, 1) := by decide +kernel
theorem dL_law_1815 : decode cL_law 1815 = .ok (.iconst 1, 1) := by decide +kernel
theorem dL_law_1816 : decode cL_law 1816 = .ok (.iadd, 1) := by decide +kernel
theorem dL_law_1817 : decode cL_law 1817 = .ok (.iaload, 1) := by decide +kernel
theorem dL_law_1818 : decode cL_law 1818 = .ok (.invokevirtual 240, 3) := by decide +kernel
theorem dL_law_1821 : decode cL_law 1821 = .ok (.if_icmp .eq 189, 3) := by decide +kernel
theorem dL_law_1826 : decode cL_law 1826 = .ok (.aload_n 1, 1) := by decide +kernel
theorem dL_law_1827 : decode cL_law 1827 = .ok (.aload_n 0, 1) := by decide +kernel
theorem dL_law_1828 : decode cL_law 1828 = .ok (.iload_n 3, 1) := by decide +kernel
theorem dL_law_1829 : decode cL_law 1829 = .ok (.iconst 1, 1) := by decide +kernel
theorem dL_law_1830 : decode cL_law 1830 = .ok (.iadd, 1) := by decide +kernel
theorem dL_law_1831 : decode cL_law 1831 = .ok (.iaload, 1) := by decide +kernel
theorem dL_law_1832 : decode cL_law 1832 = .ok (.invokevirtual 241, 3) := by decide +kernel
theorem dL_law_1835 : decode cL_law 1835 = .ok (.aload_n 2, 1) := by decide +kernel
theorem dL_law_1836 : decode cL_law 1836 = .ok (.aload_n 0, 1) := by decide +kernel
theorem dL_law_1837 : decode cL_law 1837 = .ok (.iload_n 3, 1) := by decide +kernel
theorem dL_law_1838 : decode cL_law 1838 = .ok (.iconst 1, 1) := by decide +kernel
theorem dL_law_1839 : decode cL_law 1839 = .ok (.iadd, 1) := by decide +kernel
theorem dL_law_1840 : decode cL_law 1840 = .ok (.iaload, 1) := by decide +kernel
theorem dL_law_1841 : decode cL_law 1841 = .ok (.invokevirtual 244, 3) := by decide +kernel
theorem dL_law_1844 : decode cL_law 1844 = .ok (.if_icmp .eq 166, 3) := by decide +kernel
theorem dL_law_1849 : decode cL_law 1849 = .ok (.aload_n 1, 1) := by decide +kernel
theorem dL_law_1850 : decode cL_law 1850 = .ok (.aload_n 0, 1) := by decide +kernel
theorem dL_law_1851 : decode cL_law 1851 = .ok (.iload_n 3, 1) := by decide +kernel
theorem dL_law_1852 : decode cL_law 1852 = .ok (.iconst 1, 1) := by decide +kernel
theorem dL_law_1853 : decode cL_law 1853 = .ok (.iadd, 1) := by decide +kernel
theorem dL_law_1854 : decode cL_law 1854 = .ok (.iaload, 1) := by decide +kernel
theorem dL_law_1855 : decode cL_law 1855 = .ok (.aload_n 0, 1) := by decide +kernel
theorem dL_law_1856 : decode cL_law 1856 = .ok (.iload_n 3, 1) := by decide +kernel
theorem dL_law_1857 : decode cL_law 1857 = .ok (.iconst 2, 1) := by decide +kernel
theorem dL_law_1858 : decode cL_law 1858 = .ok (.iadd, 1) := by decide +kernel
theorem dL_law_1859 : decode cL_law 1859 = .ok (.iaload, 1) := by decide +kernel
theorem dL_law_1860 : decode cL_law 1860 = .ok (.invokevirtual 245, 3) := by decide +kernel
theorem dL_law_1863 : decode cL_law 1863 = .ok (.aload_n 2, 1) := by decide +kernel
theorem dL_law_1864 : decode cL_law 1864 = .ok (.aload_n 0, 1) := by decide +kernel
theorem dL_law_1865 : decode cL_law 1865 = .ok (.iload_n 3, 1) := by decide +kernel
theorem dL_law_1866 : decode cL_law 1866 = .ok (.iconst 1, 1) := by decide +kernel
theorem dL_law_1867 : decode cL_law 1867 = .ok (.iadd, 1) := by decide +kernel
theorem dL_law_1868 : decode cL_law 1868 = .ok (.iaload, 1) := by decide +kernel
theorem dL_law_1869 : decode cL_law 1869 = .ok (.aload_n 0, 1) := by decide +kernel
theorem dL_law_1870 : decode cL_law 1870 = .ok (.iload_n 3, 1) := by decide +kernel
theorem dL_law_1871 : decode cL_law 1871 = .ok (.iconst 2, 1) := by decide +kernel
theorem dL_law_1872 : decode cL_law 1872 = .ok (.iadd, 1) := by decide +kernel
theorem dL_law_1873 : decode cL_law 1873 = .ok (.iaload, 1) := by decide +kernel
theorem dL_law_1874 : decode cL_law 1874 = .ok (.invokevirtual 248, 3) := by decide +kernel
theorem dL_law_1877 : decode cL_law 1877 = .ok (.if_icmp .eq 133, 3) := by decide +kernel
theorem dL_law_1882 : decode cL_law 1882 = .ok (.aload_n 1, 1) := by decide +kernel
theorem dL_law_1883 : decode cL_law 1883 = .ok (.aload_n 0, 1) := by decide +kernel
theorem dL_law_1884 : decode cL_law 1884 = .ok (.iload_n 3, 1) := by decide +kernel
theorem dL_law_1885 : decode cL_law 1885 = .ok (.iconst 1, 1) := by decide +kernel
theorem dL_law_1886 : decode cL_law 1886 = .ok (.iadd, 1) := by decide +kernel
theorem dL_law_1887 : decode cL_law 1887 = .ok (.iaload, 1) := by decide +kernel
theorem dL_law_1888 : decode cL_law 1888 = .ok (.invokevirtual 249, 3) := by decide +kernel
theorem dL_law_1891 : decode cL_law 1891 = .ok (.aload_n 2, 1) := by decide +kernel
theorem dL_law_1892 : decode cL_law 1892 = .ok (.aload_n 0, 1) := by decide +kernel
theorem dL_law_1893 : decode cL_law 1893 = .ok (.iload_n 3, 1) := by decide +kernel
theorem dL_law_1894 : decode cL_law 1894 = .ok (.iconst 1, 1) := by decide +kernel
theorem dL_law_1895 : decode cL_law 1895 = .ok (.iadd, 1) := by decide +kernel
theorem dL_law_1896 : decode cL_law 1896 = .ok (.iaload, 1) := by decide +kernel
theorem dL_law_1897 : decode cL_law 1897 = .ok (.invokevirtual 252, 3) := by decide +kernel
theorem dL_law_1900 : decode cL_law 1900 = .ok (.if_icmp .eq 110, 3) := by decide +kernel
theorem dL_law_1905 : decode cL_law 1905 = .ok (.aload_n 1, 1) := by decide +kernel
theorem dL_law_1906 : decode cL_law 1906 = .ok (.aload_n 0, 1) := by decide +kernel
theorem dL_law_1907 : decode cL_law 1907 = .ok (.iload_n 3, 1) := by decide +kernel
theorem dL_law_1908 : decode cL_law 1908 = .ok (.iconst 1, 1) := by decide +kernel
theorem dL_law_1909 : decode cL_law 1909 = .ok (.iadd, 1) := by decide +kernel
theorem dL_law_1910 : decode cL_law 1910 = .ok (.iaload, 1) := by decide +kernel
theorem dL_law_1911 : decode cL_law 1911 = .ok (.invokevirtual 253, 3) := by decide +kernel
theorem dL_law_1914 : decode cL_law 1914 = .ok (.aload_n 2, 1) := by decide +kernel
theorem dL_law_1915 : decode cL_law 1915 = .ok (.aload_n 0, 1) := by decide +kernel
theorem dL_law_1916 : decode cL_law 1916 = .ok (.iload_n 3, 1) := by decide +kernel
theorem dL_law_1917 : decode cL_law 1917 = .ok (.iconst 1, 1) := by decide +kernel
theorem dL_law_1918 : decode cL_law 1918 = .ok (.iadd, 1) := by decide +kernel
theorem dL_law_1919 : decode cL_law 1919 = .ok (.iaload, 1) := by decide +kernel
theorem dL_law_1920 : decode cL_law 1920 = .ok (.invokevirtual 256, 3) := by decide +kernel
theorem dL_law_1923 : decode cL_law 1923 = .ok (.if_icmp .eq 87, 3) := by decide +kernel
theorem dL_law_1928 : decode cL_law 1928 = .ok (.aload_n 1, 1) := by decide +kernel
theorem dL_law_1929 : decode cL_law 1929 = .ok (.aload_n 0, 1) := by decide +kernel
theorem dL_law_1930 : decode cL_law 1930 = .ok (.iload_n 3, 1) := by decide +kernel
theorem dL_law_1931 : decode cL_law 1931 = .ok (.iconst 1, 1) := by decide +kernel
theorem dL_law_1932 : decode cL_law 1932 = .ok (.iadd, 1) := by decide +kernel
theorem dL_law_1933 : decode cL_law 1933 = .ok (.iaload, 1) := by decide +kernel
theorem dL_law_1934 : decode cL_law 1934 = .ok (.invokevirtual 257, 3) := by decide +kernel
theorem dL_law_1937 : decode cL_law 1937 = .ok (.aload_n 2, 1) := by decide +kernel
theorem dL_law_1938 : decode cL_law 1938 = .ok (.aload_n 0, 1) := by decide +kernel
theorem dL_law_1939 : decode cL_law 1939 = .ok (.iload_n 3, 1) := by decide +kernel
theorem dL_law_1940 : decode cL_law 1940 = .ok (.iconst 1, 1) := by decide +kernel
theorem dL_law_1941 : decode cL_law 1941 = .ok (.iadd, 1) := by decide +kernel
theorem dL_law_1942 : decode cL_law 1942 = .ok (.iaload, 1) := by decide +kernel
theorem dL_law_1943 : decode cL_law 1943 = .ok (.invokevirtual 260, 3) := by decide +kernel
theorem dL_law_1946 : decode cL_law 1946 = .ok (.if_icmp .eq 64, 3) := by decide +kernel
theorem dL_law_1951 : decode cL_law 1951 = .ok (.aload_n 1, 1) := by decide +kernel
theorem dL_law_1952 : decode cL_law 1952 = .ok (.aload_n 0, 1) := by decide +kernel
theorem dL_law_1953 : decode cL_law 1953 = .ok (.iload_n 3, 1) := by decide +kernel
theorem dL_law_1954 : decode cL_law 1954 = .ok (.iconst 1, 1) := by decide +kernel
theorem dL_law_1955 : decode cL_law 1955 = .ok (.iadd, 1) := by decide +kernel
theorem dL_law_1956 : decode cL_law 1956 = .ok (.iaload, 1) := by decide +kernel
theorem dL_law_1957 : decode cL_law 1957 = .ok (.aload_n 0, 1) := by decide +kernel
theorem dL_law_1958 : decode cL_law 1958 = .ok (.iload_n 3, 1) := by decide +kernel
theorem dL_law_1959 : decode cL_law 1959 = .ok (.iconst 2, 1) := by decide +kernel
theorem dL_law_1960 : decode cL_law 1960 = .ok (.iadd, 1) := by decide +kernel
theorem dL_law_1961 : decode cL_law 1961 = .ok (.iaload, 1) := by decide +kernel
theorem dL_law_1962 : decode cL_law 1962 = .ok (.invokevirtual 261, 3) := by decide +kernel
theorem dL_law_1965 : decode cL_law 1965 = .ok (.aload_n 2, 1) := by decide +kernel
theorem dL_law_1966 : decode cL_law 1966 = .ok (.aload_n 0, 1) := by decide +kernel
theorem dL_law_1967 : decode cL_law 1967 = .ok (.iload_n 3, 1) := by decide +kernel
theorem dL_law_1968 : decode cL_law 1968 = .ok (.iconst 1, 1) := by decide +kernel
theorem dL_law_1969 : decode cL_law 1969 = .ok (.iadd, 1) := by decide +kernel
theorem dL_law_1970 : decode cL_law 1970 = .ok (.iaload, 1) := by decide +kernel
theorem dL_law_1971 : decode cL_law 1971 = .ok (.aload_n 0, 1) := by decide +kernel
theorem dL_law_1972 : decode cL_law 1972 = .ok (.iload_n 3, 1) := by decide +kernel
theorem dL_law_1973 : decode cL_law 1973 = .ok (.iconst 2, 1) := by decide +kernel
theorem dL_law_1974 : decode cL_law 1974 = .ok (.iadd, 1) := by decide +kernel
theorem dL_law_1975 : decode cL_law 1975 = .ok (.iaload, 1) := by decide +kernel
theorem dL_law_1976 : decode cL_law 1976 = .ok (.invokevirtual 264, 3) := by decide +kernel
theorem dL_law_1979 : decode cL_law 1979 = .ok (.if_icmp .eq 31, 3) := by decide +kernel
theorem dL_law_1984 : decode cL_law 1984 = .ok (.aload_n 1, 1) := by decide +kernel
theorem dL_law_1985 : decode cL_law 1985 = .ok (.invokevirtual 265, 3) := by decide +kernel
theorem dL_law_1988 : decode cL_law 1988 = .ok (.aload_n 2, 1) := by decide +kernel
theorem dL_law_1989 : decode cL_law 1989 = .ok (.invokevirtual 268, 3) := by decide +kernel
theorem dL_law_1992 : decode cL_law 1992 = .ok (.if_icmp .eq 18, 3) := by decide +kernel
theorem dL_law_1997 : decode cL_law 1997 = .ok (.aload_n 1, 1) := by decide +kernel
theorem dL_law_1998 : decode cL_law 1998 = .ok (.invokevirtual 269, 3) := by decide +kernel
theorem dL_law_2001 : decode cL_law 2001 = .ok (.aload_n 2, 1) := by decide +kernel
theorem dL_law_2002 : decode cL_law 2002 = .ok (.invokevirtual 272, 3) := by decide +kernel
theorem dL_law_2005 : decode cL_law 2005 = .ok (.if_icmp .eq 5, 3) := by decide +kernel
section LAWC
variable {p : Program} {l : Launch} {e : Env} {s : State} {m : MethodId} {args : Array Value} {below : List Frame} {meth : Method} {c : Code} {H : Heap} {locs : List Loc} {cells slots : Nat} {Q : State → Prop} {pc : Nat} {ls : Array Slot} {rest : List Value}
variable {D : va_G} {cA : Nat → ClassId} {q r aK aV : Nat → Nat} {b L : Nat} {xs : Nat → Int32}
set_option maxRecDepth 100000 in
set_option maxHeartbeats 4000000 in
theorem lc_42 {i : Nat} {M N : Mem} (hL : L ≤ 3072) (hi : i + 6 ≤ L) (X : LX p s args m c D cA q r aK aV b L xs) (hR : Rel M N) (hPC : va_P D vwCl (wsG 167 (ceC cA q) q M) H) (hPR : va_P D vwCl (wsG 20 (ceR cA r) r N) H) (hS : va_S (fun x => s.heap.size ≤ x) s.heap H locs) (hl : lv_has ls 4 [(3, .int (nI i)), (2, .ref (r 0)), (1, .ref (q 0)), (0, .ref b)]) (kk : KL p l e s m args below meth c D cA q r Q ls) : W p l e room_1 s m args below meth c H locs 187 9315 Q (F0 m 1633 ls []) := by
  obtain ⟨hx, hb, -, hown, hts, -, -, -, hiC, hiR, -, -, -, hX, hbl⟩ := id X
  have hbA : ¬ (fun x : Nat => s.heap.size ≤ x) b := Nat.not_le.mpr hbl
  refine lv_aload_n hx hb dL_law_1633 rfl (lv_at hl 2 rfl) ?_
  obtain ⟨rv, M1, N1, e1, e2, hR1⟩ := m_idle hR
  refine l_C_i (As := []) X hPC hPR hS hl.1 (c_X11_idle l D cA q aK aV hiC e1) sk_X11_idle lk_1088 sw_X11_idle ⟨rfl, rfl⟩ ⟨Nat.le_of_ble_eq_true rfl, Nat.le_of_ble_eq_true rfl⟩ ⟨Nat.le_of_ble_eq_true rfl, Nat.le_of_ble_eq_true rfl⟩ rfl rfl (Nat.le_of_ble_eq_true rfl) dL_law_1634 (fun H locs hPC hPR hS => ?_)
  refine lv_aload_n hx hb dL_law_1637 rfl (lv_at hl 1 rfl) ?_
  refine l_R_i (As := []) X hPC hPR hS hl.1 (c_X12_idle l D cA r aK aV hiR e2) sk_X12_idle lk_1948 sw_X12_idle ⟨rfl, rfl⟩ ⟨Nat.le_of_ble_eq_true rfl, Nat.le_of_ble_eq_true rfl⟩ ⟨Nat.le_of_ble_eq_true rfl, Nat.le_of_ble_eq_true rfl⟩ rfl rfl (Nat.le_of_ble_eq_true rfl) dL_law_1638 (fun H locs hPC hPR hS => ?_)
  exact lv_icmp_eq (tgt := 2010) hx hb dL_law_1641 (by decide) (fun _ => kk M1 N1 H locs hR1 hPC hPR hS) (fun z9 => absurd rfl z9)
set_option maxRecDepth 100000 in
set_option maxHeartbeats 4000000 in
theorem lc_43 {i : Nat} {M N : Mem} (hL : L ≤ 3072) (hi : i + 6 ≤ L) (X : LX p s args m c D cA q r aK aV b L xs) (hR : Rel M N) (hPC : va_P D vwCl (wsG 167 (ceC cA q) q M) H) (hPR : va_P D vwCl (wsG 20 (ceR cA r) r N) H) (hS : va_S (fun x => s.heap.size ≤ x) s.heap H locs) (hl : lv_has ls 4 [(3, .int (nI i)), (2, .ref (r 0)), (1, .ref (q 0)), (0, .ref b)]) (kk : KL p l e s m args below meth c D cA q r Q ls) : W p l e room_1 s m args below meth c H locs 187 9315 Q (F0 m 1646 ls []) := by
  obtain ⟨hx, hb, -, hown, hts, -, -, -, hiC, hiR, -, -, -, hX, hbl⟩ := id X
  have hbA : ¬ (fun x : Nat => s.heap.size ≤ x) b := Nat.not_le.mpr hbl
  refine lv_aload_n hx hb dL_law_1646 rfl (lv_at hl 2 rfl) ?_
  refine lv_aload_n hx hb dL_law_1647 rfl (lv_at hl 3 rfl) ?_
  refine lv_iload_n hx hb dL_law_1648 rfl (lv_at hl 0 rfl) ?_
  refine lv_iconst (v := 1) hx hb dL_law_1649 (by decide) ?_
  refine lv_iadd hx hb dL_law_1650 ?_
  refine va_sld hx hb hX hbl hbA hS (lx_in hi hL (k := 1) (by decide) rfl) dL_law_1651 ?_
  obtain ⟨rv, M1, N1, e1, e2, hR1⟩ := m_tells hR (xs (nI i + 1).toNatClampNeg)
  refine l_C_i (As := [.int (xs (nI i + 1).toNatClampNeg)]) X hPC hPR hS hl.1 (c_X11_tells l D cA q aK aV hiC e1) sk_X11_tells lk_1092 sw_X11_tells ⟨rfl, rfl⟩ ⟨Nat.le_of_ble_eq_true rfl, Nat.le_of_ble_eq_true rfl⟩ ⟨Nat.le_of_ble_eq_true rfl, Nat.le_of_ble_eq_true rfl⟩ rfl rfl (Nat.le_of_ble_eq_true rfl) dL_law_1652 (fun H locs hPC hPR hS => ?_)
  refine lv_aload_n hx hb dL_law_1655 rfl (lv_at hl 1 rfl) ?_
  refine lv_aload_n hx hb dL_law_1656 rfl (lv_at hl 3 rfl) ?_
  refine lv_iload_n hx hb dL_law_1657 rfl (lv_at hl 0 rfl) ?_
  refine lv_iconst (v := 1) hx hb dL_law_1658 (by decide) ?_
  refine lv_iadd hx hb dL_law_1659 ?_
  refine va_sld hx hb hX hbl hbA hS (lx_in hi hL (k := 1) (by decide) rfl) dL_law_1660 ?_
  refine l_R_i (As := [.int (xs (nI i + 1).toNatClampNeg)]) X hPC hPR hS hl.1 (c_X12_tells l D cA r aK aV hiR e2) sk_X12_tells lk_1952 sw_X12_tells ⟨rfl, rfl⟩ ⟨Nat.le_of_ble_eq_true rfl, Nat.le_of_ble_eq_true rfl⟩ ⟨Nat.le_of_ble_eq_true rfl, Nat.le_of_ble_eq_true rfl⟩ rfl rfl (Nat.le_of_ble_eq_true rfl) dL_law_1661 (fun H locs hPC hPR hS => ?_)
  exact lv_icmp_eq (tgt := 2010) hx hb dL_law_1664 (by decide) (fun _ => kk M1 N1 H locs hR1 hPC hPR hS) (fun z9 => absurd rfl z9)
set_option maxRecDepth 100000 in
set_option maxHeartbeats 4000000 in
theorem lc_44 {i : Nat} {M N : Mem} (hL : L ≤ 3072) (hi : i + 6 ≤ L) (X : LX p s args m c D cA q r aK aV b L xs) (hR : Rel M N) (hPC : va_P D vwCl (wsG 167 (ceC cA q) q M) H) (hPR : va_P D vwCl (wsG 20 (ceR cA r) r N) H) (hS : va_S (fun x => s.heap.size ≤ x) s.heap H locs) (hl : lv_has ls 4 [(3, .int (nI i)), (2, .ref (r 0)), (1, .ref (q 0)), (0, .ref b)]) (kk : KL p l e s m args below meth c D cA q r Q ls) : W p l e room_1 s m args below meth c H locs 187 9315 Q (F0 m 1669 ls []) := by
  obtain ⟨hx, hb, -, hown, hts, -, -, -, hiC, hiR, -, -, -, hX, hbl⟩ := id X
  have hbA : ¬ (fun x : Nat => s.heap.size ≤ x) b := Nat.not_le.mpr hbl
  refine lv_aload_n hx hb dL_law_1669 rfl (lv_at hl 2 rfl) ?_
  obtain ⟨rv, M1, N1, e1, e2, hR1⟩ := m_mute hR
  refine l_C_i (As := []) X hPC hPR hS hl.1 (c_X11_mute l D cA q aK aV hiC e1) sk_X11_mute lk_1096 sw_X11_mute ⟨rfl, rfl⟩ ⟨Nat.le_of_ble_eq_true rfl, Nat.le_of_ble_eq_true rfl⟩ ⟨Nat.le_of_ble_eq_true rfl, Nat.le_of_ble_eq_true rfl⟩ rfl rfl (Nat.le_of_ble_eq_true rfl) dL_law_1670 (fun H locs hPC hPR hS => ?_)
  refine lv_aload_n hx hb dL_law_1673 rfl (lv_at hl 1 rfl) ?_
  refine l_R_i (As := []) X hPC hPR hS hl.1 (c_X12_mute l D cA r aK aV hiR e2) sk_X12_mute lk_1956 sw_X12_mute ⟨rfl, rfl⟩ ⟨Nat.le_of_ble_eq_true rfl, Nat.le_of_ble_eq_true rfl⟩ ⟨Nat.le_of_ble_eq_true rfl, Nat.le_of_ble_eq_true rfl⟩ rfl rfl (Nat.le_of_ble_eq_true rfl) dL_law_1674 (fun H locs hPC hPR hS => ?_)
  exact lv_icmp_eq (tgt := 2010) hx hb dL_law_1677 (by decide) (fun _ => kk M1 N1 H locs hR1 hPC hPR hS) (fun z9 => absurd rfl z9)
set_option maxRecDepth 100000 in
set_option maxHeartbeats 4000000 in
theorem lc_45 {i : Nat} {M N : Mem} (hL : L ≤ 3072) (hi : i + 6 ≤ L) (X : LX p s args m c D cA q r aK aV b L xs) (hR : Rel M N) (hPC : va_P D vwCl (wsG 167 (ceC cA q) q M) H) (hPR : va_P D vwCl (wsG 20 (ceR cA r) r N) H) (hS : va_S (fun x => s.heap.size ≤ x) s.heap H locs) (hl : lv_has ls 4 [(3, .int (nI i)), (2, .ref (r 0)), (1, .ref (q 0)), (0, .ref b)]) (kk : KL p l e s m args below meth c D cA q r Q ls) : W p l e room_1 s m args below meth c H locs 187 9315 Q (F0 m 1682 ls []) := by
  obtain ⟨hx, hb, -, hown, hts, -, -, -, hiC, hiR, -, -, -, hX, hbl⟩ := id X
  have hbA : ¬ (fun x : Nat => s.heap.size ≤ x) b := Nat.not_le.mpr hbl
  refine lv_aload_n hx hb dL_law_1682 rfl (lv_at hl 2 rfl) ?_
  refine lv_aload_n hx hb dL_law_1683 rfl (lv_at hl 3 rfl) ?_
  refine lv_iload_n hx hb dL_law_1684 rfl (lv_at hl 0 rfl) ?_
  refine lv_iconst (v := 1) hx hb dL_law_1685 (by decide) ?_
  refine lv_iadd hx hb dL_law_1686 ?_
  refine va_sld hx hb hX hbl hbA hS (lx_in hi hL (k := 1) (by decide) rfl) dL_law_1687 ?_
  obtain ⟨rv, M1, N1, e1, e2, hR1⟩ := m_verdict hR (xs (nI i + 1).toNatClampNeg)
  refine l_C_i (As := [.int (xs (nI i + 1).toNatClampNeg)]) X hPC hPR hS hl.1 (c_X11_verdict l D cA q aK aV hiC e1) sk_X11_verdict lk_1100 sw_X11_verdict ⟨rfl, rfl⟩ ⟨Nat.le_of_ble_eq_true rfl, Nat.le_of_ble_eq_true rfl⟩ ⟨Nat.le_of_ble_eq_true rfl, Nat.le_of_ble_eq_true rfl⟩ rfl rfl (Nat.le_of_ble_eq_true rfl) dL_law_1688 (fun H locs hPC hPR hS => ?_)
  refine lv_aload_n hx hb dL_law_1691 rfl (lv_at hl 1 rfl) ?_
  refine lv_aload_n hx hb dL_law_1692 rfl (lv_at hl 3 rfl) ?_
  refine lv_iload_n hx hb dL_law_1693 rfl (lv_at hl 0 rfl) ?_
  refine lv_iconst (v := 1) hx hb dL_law_1694 (by decide) ?_
  refine lv_iadd hx hb dL_law_1695 ?_
  refine va_sld hx hb hX hbl hbA hS (lx_in hi hL (k := 1) (by decide) rfl) dL_law_1696 ?_
  refine l_R_i (As := [.int (xs (nI i + 1).toNatClampNeg)]) X hPC hPR hS hl.1 (c_X12_verdict l D cA r aK aV hiR e2) sk_X12_verdict lk_1960 sw_X12_verdict ⟨rfl, rfl⟩ ⟨Nat.le_of_ble_eq_true rfl, Nat.le_of_ble_eq_true rfl⟩ ⟨Nat.le_of_ble_eq_true rfl, Nat.le_of_ble_eq_true rfl⟩ rfl rfl (Nat.le_of_ble_eq_true rfl) dL_law_1697 (fun H locs hPC hPR hS => ?_)
  exact lv_icmp_eq (tgt := 2010) hx hb dL_law_1700 (by decide) (fun _ => kk M1 N1 H locs hR1 hPC hPR hS) (fun z9 => absurd rfl z9)
set_option maxRecDepth 100000 in
set_option maxHeartbeats 4000000 in
theorem lc_46 {i : Nat} {M N : Mem} (hL : L ≤ 3072) (hi : i + 6 ≤ L) (X : LX p s args m c D cA q r aK aV b L xs) (hR : Rel M N) (hPC : va_P D vwCl (wsG 167 (ceC cA q) q M) H) (hPR : va_P D vwCl (wsG 20 (ceR cA r) r N) H) (hS : va_S (fun x => s.heap.size ≤ x) s.heap H locs) (hl : lv_has ls 4 [(3, .int (nI i)), (2, .ref (r 0)), (1, .ref (q 0)), (0, .ref b)]) (kk : KL p l e s m args below meth c D cA q r Q ls) : W p l e room_1 s m args below meth c H locs 187 9315 Q (F0 m 1705 ls []) := by
  obtain ⟨hx, hb, -, hown, hts, -, -, -, hiC, hiR, -, -, -, hX, hbl⟩ := id X
  have hbA : ¬ (fun x : Nat => s.heap.size ≤ x) b := Nat.not_le.mpr hbl
  refine lv_aload_n hx hb dL_law_1705 rfl (lv_at hl 2 rfl) ?_
  refine lv_aload_n hx hb dL_law_1706 rfl (lv_at hl 3 rfl) ?_
  refine lv_iload_n hx hb dL_law_1707 rfl (lv_at hl 0 rfl) ?_
  refine lv_iconst (v := 1) hx hb dL_law_1708 (by decide) ?_
  refine lv_iadd hx hb dL_law_1709 ?_
  refine va_sld hx hb hX hbl hbA hS (lx_in hi hL (k := 1) (by decide) rfl) dL_law_1710 ?_
  obtain ⟨rv, M1, N1, e1, e2, hR1⟩ := m_sworn hR (xs (nI i + 1).toNatClampNeg)
  refine l_C_i (As := [.int (xs (nI i + 1).toNatClampNeg)]) X hPC hPR hS hl.1 (c_X11_sworn l D cA q aK aV hiC e1) sk_X11_sworn lk_1113 sw_X11_sworn ⟨rfl, rfl⟩ ⟨Nat.le_of_ble_eq_true rfl, Nat.le_of_ble_eq_true rfl⟩ ⟨Nat.le_of_ble_eq_true rfl, Nat.le_of_ble_eq_true rfl⟩ rfl rfl (Nat.le_of_ble_eq_true rfl) dL_law_1711 (fun H locs hPC hPR hS => ?_)
  refine lv_aload_n hx hb dL_law_1714 rfl (lv_at hl 1 rfl) ?_
  refine lv_aload_n hx hb dL_law_1715 rfl (lv_at hl 3 rfl) ?_
  refine lv_iload_n hx hb dL_law_1716 rfl (lv_at hl 0 rfl) ?_
  refine lv_iconst (v := 1) hx hb dL_law_1717 (by decide) ?_
  refine lv_iadd hx hb dL_law_1718 ?_
  refine va_sld hx hb hX hbl hbA hS (lx_in hi hL (k := 1) (by decide) rfl) dL_law_1719 ?_
  refine l_R_i (As := [.int (xs (nI i + 1).toNatClampNeg)]) X hPC hPR hS hl.1 (c_X12_sworn l D cA r aK aV hiR e2) sk_X12_sworn lk_1968 sw_X12_sworn ⟨rfl, rfl⟩ ⟨Nat.le_of_ble_eq_true rfl, Nat.le_of_ble_eq_true rfl⟩ ⟨Nat.le_of_ble_eq_true rfl, Nat.le_of_ble_eq_true rfl⟩ rfl rfl (Nat.le_of_ble_eq_true rfl) dL_law_1720 (fun H locs hPC hPR hS => ?_)
  exact lv_icmp_eq (tgt := 2010) hx hb dL_law_1723 (by decide) (fun _ => kk M1 N1 H locs hR1 hPC hPR hS) (fun z9 => absurd rfl z9)
set_option maxRecDepth 100000 in
set_option maxHeartbeats 4000000 in
theorem lc_47 {i : Nat} {M N : Mem} (hL : L ≤ 3072) (hi : i + 6 ≤ L) (X : LX p s args m c D cA q r aK aV b L xs) (hR : Rel M N) (hPC : va_P D vwCl (wsG 167 (ceC cA q) q M) H) (hPR : va_P D vwCl (wsG 20 (ceR cA r) r N) H) (hS : va_S (fun x => s.heap.size ≤ x) s.heap H locs) (hl : lv_has ls 4 [(3, .int (nI i)), (2, .ref (r 0)), (1, .ref (q 0)), (0, .ref b)]) (kk : KL p l e s m args below meth c D cA q r Q ls) : W p l e room_1 s m args below meth c H locs 187 9315 Q (F0 m 1728 ls []) := by
  obtain ⟨hx, hb, -, hown, hts, -, -, -, hiC, hiR, -, -, -, hX, hbl⟩ := id X
  have hbA : ¬ (fun x : Nat => s.heap.size ≤ x) b := Nat.not_le.mpr hbl
  refine lv_aload_n hx hb dL_law_1728 rfl (lv_at hl 2 rfl) ?_
  refine lv_aload_n hx hb dL_law_1729 rfl (lv_at hl 3 rfl) ?_
  refine lv_iload_n hx hb dL_law_1730 rfl (lv_at hl 0 rfl) ?_
  refine lv_iconst (v := 1) hx hb dL_law_1731 (by decide) ?_
  refine lv_iadd hx hb dL_law_1732 ?_
  refine va_sld hx hb hX hbl hbA hS (lx_in hi hL (k := 1) (by decide) rfl) dL_law_1733 ?_
  obtain ⟨rv, M1, N1, e1, e2, hR1⟩ := m_power hR (xs (nI i + 1).toNatClampNeg)
  refine l_C_i (As := [.int (xs (nI i + 1).toNatClampNeg)]) X hPC hPR hS hl.1 (c_X11_power l D cA q aK aV hiC e1) sk_X11_power lk_1118 sw_X11_power ⟨rfl, rfl⟩ ⟨Nat.le_of_ble_eq_true rfl, Nat.le_of_ble_eq_true rfl⟩ ⟨Nat.le_of_ble_eq_true rfl, Nat.le_of_ble_eq_true rfl⟩ rfl rfl (Nat.le_of_ble_eq_true rfl) dL_law_1734 (fun H locs hPC hPR hS => ?_)
  refine lv_aload_n hx hb dL_law_1737 rfl (lv_at hl 1 rfl) ?_
  refine lv_aload_n hx hb dL_law_1738 rfl (lv_at hl 3 rfl) ?_
  refine lv_iload_n hx hb dL_law_1739 rfl (lv_at hl 0 rfl) ?_
  refine lv_iconst (v := 1) hx hb dL_law_1740 (by decide) ?_
  refine lv_iadd hx hb dL_law_1741 ?_
  refine va_sld hx hb hX hbl hbA hS (lx_in hi hL (k := 1) (by decide) rfl) dL_law_1742 ?_
  refine l_R_i (As := [.int (xs (nI i + 1).toNatClampNeg)]) X hPC hPR hS hl.1 (c_X12_power l D cA r aK aV hiR e2) sk_X12_power lk_1973 sw_X12_power ⟨rfl, rfl⟩ ⟨Nat.le_of_ble_eq_true rfl, Nat.le_of_ble_eq_true rfl⟩ ⟨Nat.le_of_ble_eq_true rfl, Nat.le_of_ble_eq_true rfl⟩ rfl rfl (Nat.le_of_ble_eq_true rfl) dL_law_1743 (fun H locs hPC hPR hS => ?_)
  exact lv_icmp_eq (tgt := 2010) hx hb dL_law_1746 (by decide) (fun _ => kk M1 N1 H locs hR1 hPC hPR hS) (fun z9 => absurd rfl z9)
set_option maxRecDepth 100000 in
set_option maxHeartbeats 4000000 in
theorem lc_48 {i : Nat} {M N : Mem} (hL : L ≤ 3072) (hi : i + 6 ≤ L) (X : LX p s args m c D cA q r aK aV b L xs) (hR : Rel M N) (hPC : va_P D vwCl (wsG 167 (ceC cA q) q M) H) (hPR : va_P D vwCl (wsG 20 (ceR cA r) r N) H) (hS : va_S (fun x => s.heap.size ≤ x) s.heap H locs) (hl : lv_has ls 4 [(3, .int (nI i)), (2, .ref (r 0)), (1, .ref (q 0)), (0, .ref b)]) (kk : KL p l e s m args below meth c D cA q r Q ls) : W p l e room_1 s m args below meth c H locs 187 9315 Q (F0 m 1751 ls []) := by
  obtain ⟨hx, hb, -, hown, hts, -, -, -, hiC, hiR, -, -, -, hX, hbl⟩ := id X
  have hbA : ¬ (fun x : Nat => s.heap.size ≤ x) b := Nat.not_le.mpr hbl
  refine lv_aload_n hx hb dL_law_1751 rfl (lv_at hl 2 rfl) ?_
  obtain ⟨rv, M1, N1, e1, e2, hR1⟩ := m_clash hR
  refine l_C_i (As := []) X hPC hPR hS hl.1 (c_X11_clash l D cA q aK aV hiC e1) sk_X11_clash lk_1125 sw_X11_clash ⟨rfl, rfl⟩ ⟨Nat.le_of_ble_eq_true rfl, Nat.le_of_ble_eq_true rfl⟩ ⟨Nat.le_of_ble_eq_true rfl, Nat.le_of_ble_eq_true rfl⟩ rfl rfl (Nat.le_of_ble_eq_true rfl) dL_law_1752 (fun H locs hPC hPR hS => ?_)
  refine lv_aload_n hx hb dL_law_1755 rfl (lv_at hl 1 rfl) ?_
  refine l_R_i (As := []) X hPC hPR hS hl.1 (c_X12_clash l D cA r aK aV hiR e2) sk_X12_clash lk_1980 sw_X12_clash ⟨rfl, rfl⟩ ⟨Nat.le_of_ble_eq_true rfl, Nat.le_of_ble_eq_true rfl⟩ ⟨Nat.le_of_ble_eq_true rfl, Nat.le_of_ble_eq_true rfl⟩ rfl rfl (Nat.le_of_ble_eq_true rfl) dL_law_1756 (fun H locs hPC hPR hS => ?_)
  exact lv_icmp_eq (tgt := 2010) hx hb dL_law_1759 (by decide) (fun _ => kk M1 N1 H locs hR1 hPC hPR hS) (fun z9 => absurd rfl z9)
set_option maxRecDepth 100000 in
set_option maxHeartbeats 4000000 in
theorem lc_49 {i : Nat} {M N : Mem} (hL : L ≤ 3072) (hi : i + 6 ≤ L) (X : LX p s args m c D cA q r aK aV b L xs) (hR : Rel M N) (hPC : va_P D vwCl (wsG 167 (ceC cA q) q M) H) (hPR : va_P D vwCl (wsG 20 (ceR cA r) r N) H) (hS : va_S (fun x => s.heap.size ≤ x) s.heap H locs) (hl : lv_has ls 4 [(3, .int (nI i)), (2, .ref (r 0)), (1, .ref (q 0)), (0, .ref b)]) (kk : KL p l e s m args below meth c D cA q r Q ls) : W p l e room_1 s m args below meth c H locs 187 9315 Q (F0 m 1764 ls []) := by
  obtain ⟨hx, hb, -, hown, hts, -, -, -, hiC, hiR, -, -, -, hX, hbl⟩ := id X
  have hbA : ¬ (fun x : Nat => s.heap.size ≤ x) b := Nat.not_le.mpr hbl
  refine lv_aload_n hx hb dL_law_1764 rfl (lv_at hl 2 rfl) ?_
  obtain ⟨rv, M1, N1, e1, e2, hR1⟩ := m_struck hR
  refine l_C_i (As := []) X hPC hPR hS hl.1 (c_X11_struck l D cA q aK aV hiC e1) sk_X11_struck lk_1133 sw_X11_struck ⟨rfl, rfl⟩ ⟨Nat.le_of_ble_eq_true rfl, Nat.le_of_ble_eq_true rfl⟩ ⟨Nat.le_of_ble_eq_true rfl, Nat.le_of_ble_eq_true rfl⟩ rfl rfl (Nat.le_of_ble_eq_true rfl) dL_law_1765 (fun H locs hPC hPR hS => ?_)
  refine lv_aload_n hx hb dL_law_1768 rfl (lv_at hl 1 rfl) ?_
  refine l_R_i (As := []) X hPC hPR hS hl.1 (c_X12_struck l D cA r aK aV hiR e2) sk_X12_struck lk_1996 sw_X12_struck ⟨rfl, rfl⟩ ⟨Nat.le_of_ble_eq_true rfl, Nat.le_of_ble_eq_true rfl⟩ ⟨Nat.le_of_ble_eq_true rfl, Nat.le_of_ble_eq_true rfl⟩ rfl rfl (Nat.le_of_ble_eq_true rfl) dL_law_1769 (fun H locs hPC hPR hS => ?_)
  exact lv_icmp_eq (tgt := 2010) hx hb dL_law_1772 (by decide) (fun _ => kk M1 N1 H locs hR1 hPC hPR hS) (fun z9 => absurd rfl z9)
set_option maxRecDepth 100000 in
set_option maxHeartbeats 4000000 in
theorem lc_50 {i : Nat} {M N : Mem} (hL : L ≤ 3072) (hi : i + 6 ≤ L) (X : LX p s args m c D cA q r aK aV b L xs) (hR : Rel M N) (hPC : va_P D vwCl (wsG 167 (ceC cA q) q M) H) (hPR : va_P D vwCl (wsG 20 (ceR cA r) r N) H) (hS : va_S (fun x => s.heap.size ≤ x) s.heap H locs) (hl : lv_has ls 4 [(3, .int (nI i)), (2, .ref (r 0)), (1, .ref (q 0)), (0, .ref b)]) (kk : KL p l e s m args below meth c D cA q r Q ls) : W p l e room_1 s m args below meth c H locs 187 9315 Q (F0 m 1777 ls []) := by
  obtain ⟨hx, hb, -, hown, hts, -, -, -, hiC, hiR, -, -, -, hX, hbl⟩ := id X
  have hbA : ¬ (fun x : Nat => s.heap.size ≤ x) b := Nat.not_le.mpr hbl
  refine lv_aload_n hx hb dL_law_1777 rfl (lv_at hl 2 rfl) ?_
  obtain ⟨rv, M1, N1, e1, e2, hR1⟩ := m_struckSet hR
  refine l_C_i (As := []) X hPC hPR hS hl.1 (c_X11_struckSet l D cA q aK aV hiC e1) sk_X11_struckSet lk_1149 sw_X11_struckSet ⟨rfl, rfl⟩ ⟨Nat.le_of_ble_eq_true rfl, Nat.le_of_ble_eq_true rfl⟩ ⟨Nat.le_of_ble_eq_true rfl, Nat.le_of_ble_eq_true rfl⟩ rfl rfl (Nat.le_of_ble_eq_true rfl) dL_law_1778 (fun H locs hPC hPR hS => ?_)
  refine lv_aload_n hx hb dL_law_1781 rfl (lv_at hl 1 rfl) ?_
  refine l_R_i (As := []) X hPC hPR hS hl.1 (c_X12_struckSet l D cA r aK aV hiR e2) sk_X12_struckSet lk_2008 sw_X12_struckSet ⟨rfl, rfl⟩ ⟨Nat.le_of_ble_eq_true rfl, Nat.le_of_ble_eq_true rfl⟩ ⟨Nat.le_of_ble_eq_true rfl, Nat.le_of_ble_eq_true rfl⟩ rfl rfl (Nat.le_of_ble_eq_true rfl) dL_law_1782 (fun H locs hPC hPR hS => ?_)
  exact lv_icmp_eq (tgt := 2010) hx hb dL_law_1785 (by decide) (fun _ => kk M1 N1 H locs hR1 hPC hPR hS) (fun z9 => absurd rfl z9)
set_option maxRecDepth 100000 in
set_option maxHeartbeats 4000000 in
theorem lc_51 {i : Nat} {M N : Mem} (hL : L ≤ 3072) (hi : i + 6 ≤ L) (X : LX p s args m c D cA q r aK aV b L xs) (hR : Rel M N) (hPC : va_P D vwCl (wsG 167 (ceC cA q) q M) H) (hPR : va_P D vwCl (wsG 20 (ceR cA r) r N) H) (hS : va_S (fun x => s.heap.size ≤ x) s.heap H locs) (hl : lv_has ls 4 [(3, .int (nI i)), (2, .ref (r 0)), (1, .ref (q 0)), (0, .ref b)]) (kk : KL p l e s m args below meth c D cA q r Q ls) : W p l e room_1 s m args below meth c H locs 187 9315 Q (F0 m 1790 ls []) := by
  obtain ⟨hx, hb, -, hown, hts, -, -, -, hiC, hiR, -, -, -, hX, hbl⟩ := id X
  have hbA : ¬ (fun x : Nat => s.heap.size ≤ x) b := Nat.not_le.mpr hbl
  refine lv_aload_n hx hb dL_law_1790 rfl (lv_at hl 2 rfl) ?_
  obtain ⟨rv, M1, N1, e1, e2, hR1⟩ := m_best hR
  refine l_C_i (As := []) X hPC hPR hS hl.1 (c_X11_best l D cA q aK aV hiC e1) sk_X11_best lk_1153 sw_X11_best ⟨rfl, rfl⟩ ⟨Nat.le_of_ble_eq_true rfl, Nat.le_of_ble_eq_true rfl⟩ ⟨Nat.le_of_ble_eq_true rfl, Nat.le_of_ble_eq_true rfl⟩ rfl rfl (Nat.le_of_ble_eq_true rfl) dL_law_1791 (fun H locs hPC hPR hS => ?_)
  refine lv_aload_n hx hb dL_law_1794 rfl (lv_at hl 1 rfl) ?_
  refine l_R_i (As := []) X hPC hPR hS hl.1 (c_X12_best l D cA r aK aV hiR e2) sk_X12_best lk_2012 sw_X12_best ⟨rfl, rfl⟩ ⟨Nat.le_of_ble_eq_true rfl, Nat.le_of_ble_eq_true rfl⟩ ⟨Nat.le_of_ble_eq_true rfl, Nat.le_of_ble_eq_true rfl⟩ rfl rfl (Nat.le_of_ble_eq_true rfl) dL_law_1795 (fun H locs hPC hPR hS => ?_)
  exact lv_icmp_eq (tgt := 2010) hx hb dL_law_1798 (by decide) (fun _ => kk M1 N1 H locs hR1 hPC hPR hS) (fun z9 => absurd rfl z9)
set_option maxRecDepth 100000 in
set_option maxHeartbeats 4000000 in
theorem lc_52 {i : Nat} {M N : Mem} (hL : L ≤ 3072) (hi : i + 6 ≤ L) (X : LX p s args m c D cA q r aK aV b L xs) (hR : Rel M N) (hPC : va_P D vwCl (wsG 167 (ceC cA q) q M) H) (hPR : va_P D vwCl (wsG 20 (ceR cA r) r N) H) (hS : va_S (fun x => s.heap.size ≤ x) s.heap H locs) (hl : lv_has ls 4 [(3, .int (nI i)), (2, .ref (r 0)), (1, .ref (q 0)), (0, .ref b)]) (kk : KL p l e s m args below meth c D cA q r Q ls) : W p l e room_1 s m args below meth c H locs 187 9315 Q (F0 m 1803 ls []) := by
  obtain ⟨hx, hb, -, hown, hts, -, -, -, hiC, hiR, -, -, -, hX, hbl⟩ := id X
  have hbA : ¬ (fun x : Nat => s.heap.size ≤ x) b := Nat.not_le.mpr hbl
  refine lv_aload_n hx hb dL_law_1803 rfl (lv_at hl 2 rfl) ?_
  refine lv_aload_n hx hb dL_law_1804 rfl (lv_at hl 3 rfl) ?_
  refine lv_iload_n hx hb dL_law_1805 rfl (lv_at hl 0 rfl) ?_
  refine lv_iconst (v := 1) hx hb dL_law_1806 (by decide) ?_
  refine lv_iadd hx hb dL_law_1807 ?_
  refine va_sld hx hb hX hbl hbA hS (lx_in hi hL (k := 1) (by decide) rfl) dL_law_1808 ?_
  obtain ⟨rv, M1, N1, e1, e2, hR1⟩ := m_bestAt hR (xs (nI i + 1).toNatClampNeg)
  refine l_C_i (As := [.int (xs (nI i + 1).toNatClampNeg)]) X hPC hPR hS hl.1 (c_X11_bestAt l D cA q aK aV hiC e1) sk_X11_bestAt lk_1188 sw_X11_bestAt ⟨rfl, rfl⟩ ⟨Nat.le_of_ble_eq_true rfl, Nat.le_of_ble_eq_true rfl⟩ ⟨Nat.le_of_ble_eq_true rfl, Nat.le_of_ble_eq_true rfl⟩ rfl rfl (Nat.le_of_ble_eq_true rfl) dL_law_1809 (fun H locs hPC hPR hS => ?_)
  refine lv_aload_n hx hb dL_law_1812 rfl (lv_at hl 1 rfl) ?_
  refine lv_aload_n hx hb dL_law_1813 rfl (lv_at hl 3 rfl) ?_
  refine lv_iload_n hx hb dL_law_1814 rfl (lv_at hl 0 rfl) ?_
  refine lv_iconst (v := 1) hx hb dL_law_1815 (by decide) ?_
  refine lv_iadd hx hb dL_law_1816 ?_
  refine va_sld hx hb hX hbl hbA hS (lx_in hi hL (k := 1) (by decide) rfl) dL_law_1817 ?_
  refine l_R_i (As := [.int (xs (nI i + 1).toNatClampNeg)]) X hPC hPR hS hl.1 (c_X12_bestAt l D cA r aK aV hiR e2) sk_X12_bestAt lk_2020 sw_X12_bestAt ⟨rfl, rfl⟩ ⟨Nat.le_of_ble_eq_true rfl, Nat.le_of_ble_eq_true rfl⟩ ⟨Nat.le_of_ble_eq_true rfl, Nat.le_of_ble_eq_true rfl⟩ rfl rfl (Nat.le_of_ble_eq_true rfl) dL_law_1818 (fun H locs hPC hPR hS => ?_)
  exact lv_icmp_eq (tgt := 2010) hx hb dL_law_1821 (by decide) (fun _ => kk M1 N1 H locs hR1 hPC hPR hS) (fun z9 => absurd rfl z9)
set_option maxRecDepth 100000 in
set_option maxHeartbeats 4000000 in
theorem lc_53 {i : Nat} {M N : Mem} (hL : L ≤ 3072) (hi : i + 6 ≤ L) (X : LX p s args m c D cA q r aK aV b L xs) (hR : Rel M N) (hPC : va_P D vwCl (wsG 167 (ceC cA q) q M) H) (hPR : va_P D vwCl (wsG 20 (ceR cA r) r N) H) (hS : va_S (fun x => s.heap.size ≤ x) s.heap H locs) (hl : lv_has ls 4 [(3, .int (nI i)), (2, .ref (r 0)), (1, .ref (q 0)), (0, .ref b)]) (kk : KL p l e s m args below meth c D cA q r Q ls) : W p l e room_1 s m args below meth c H locs 187 9315 Q (F0 m 1826 ls []) := by
  obtain ⟨hx, hb, -, hown, hts, -, -, -, hiC, hiR, -, -, -, hX, hbl⟩ := id X
  have hbA : ¬ (fun x : Nat => s.heap.size ≤ x) b := Nat.not_le.mpr hbl
  refine lv_aload_n hx hb dL_law_1826 rfl (lv_at hl 2 rfl) ?_
  refine lv_aload_n hx hb dL_law_1827 rfl (lv_at hl 3 rfl) ?_
  refine lv_iload_n hx hb dL_law_1828 rfl (lv_at hl 0 rfl) ?_
  refine lv_iconst (v := 1) hx hb dL_law_1829 (by decide) ?_
  refine lv_iadd hx hb dL_law_1830 ?_
  refine va_sld hx hb hX hbl hbA hS (lx_in hi hL (k := 1) (by decide) rfl) dL_law_1831 ?_
  obtain ⟨rv, M1, N1, e1, e2, hR1⟩ := m_game hR (xs (nI i + 1).toNatClampNeg)
  refine l_C_i (As := [.int (xs (nI i + 1).toNatClampNeg)]) X hPC hPR hS hl.1 (c_X11_game l D cA q aK aV hiC e1) sk_X11_game lk_1192 sw_X11_game ⟨rfl, rfl⟩ ⟨Nat.le_of_ble_eq_true rfl, Nat.le_of_ble_eq_true rfl⟩ ⟨Nat.le_of_ble_eq_true rfl, Nat.le_of_ble_eq_true rfl⟩ rfl rfl (Nat.le_of_ble_eq_true rfl) dL_law_1832 (fun H locs hPC hPR hS => ?_)
  refine lv_aload_n hx hb dL_law_1835 rfl (lv_at hl 1 rfl) ?_
  refine lv_aload_n hx hb dL_law_1836 rfl (lv_at hl 3 rfl) ?_
  refine lv_iload_n hx hb dL_law_1837 rfl (lv_at hl 0 rfl) ?_
  refine lv_iconst (v := 1) hx hb dL_law_1838 (by decide) ?_
  refine lv_iadd hx hb dL_law_1839 ?_
  refine va_sld hx hb hX hbl hbA hS (lx_in hi hL (k := 1) (by decide) rfl) dL_law_1840 ?_
  refine l_R_i (As := [.int (xs (nI i + 1).toNatClampNeg)]) X hPC hPR hS hl.1 (c_X12_game l D cA r aK aV hiR e2) sk_X12_game lk_2024 sw_X12_game ⟨rfl, rfl⟩ ⟨Nat.le_of_ble_eq_true rfl, Nat.le_of_ble_eq_true rfl⟩ ⟨Nat.le_of_ble_eq_true rfl, Nat.le_of_ble_eq_true rfl⟩ rfl rfl (Nat.le_of_ble_eq_true rfl) dL_law_1841 (fun H locs hPC hPR hS => ?_)
  exact lv_icmp_eq (tgt := 2010) hx hb dL_law_1844 (by decide) (fun _ => kk M1 N1 H locs hR1 hPC hPR hS) (fun z9 => absurd rfl z9)
set_option maxRecDepth 100000 in
set_option maxHeartbeats 4000000 in
theorem lc_54 {i : Nat} {M N : Mem} (hL : L ≤ 3072) (hi : i + 6 ≤ L) (X : LX p s args m c D cA q r aK aV b L xs) (hR : Rel M N) (hPC : va_P D vwCl (wsG 167 (ceC cA q) q M) H) (hPR : va_P D vwCl (wsG 20 (ceR cA r) r N) H) (hS : va_S (fun x => s.heap.size ≤ x) s.heap H locs) (hl : lv_has ls 4 [(3, .int (nI i)), (2, .ref (r 0)), (1, .ref (q 0)), (0, .ref b)]) (kk : KL p l e s m args below meth c D cA q r Q ls) : W p l e room_1 s m args below meth c H locs 187 9315 Q (F0 m 1849 ls []) := by
  obtain ⟨hx, hb, -, hown, hts, -, -, -, hiC, hiR, -, -, -, hX, hbl⟩ := id X
  have hbA : ¬ (fun x : Nat => s.heap.size ≤ x) b := Nat.not_le.mpr hbl
  refine lv_aload_n hx hb dL_law_1849 rfl (lv_at hl 2 rfl) ?_
  refine lv_aload_n hx hb dL_law_1850 rfl (lv_at hl 3 rfl) ?_
  refine lv_iload_n hx hb dL_law_1851 rfl (lv_at hl 0 rfl) ?_
  refine lv_iconst (v := 1) hx hb dL_law_1852 (by decide) ?_
  refine lv_iadd hx hb dL_law_1853 ?_
  refine va_sld hx hb hX hbl hbA hS (lx_in hi hL (k := 1) (by decide) rfl) dL_law_1854 ?_
  refine lv_aload_n hx hb dL_law_1855 rfl (lv_at hl 3 rfl) ?_
  refine lv_iload_n hx hb dL_law_1856 rfl (lv_at hl 0 rfl) ?_
  refine lv_iconst (v := 2) hx hb dL_law_1857 (by decide) ?_
  refine lv_iadd hx hb dL_law_1858 ?_
  refine va_sld hx hb hX hbl hbA hS (lx_in hi hL (k := 2) (by decide) rfl) dL_law_1859 ?_
  obtain ⟨rv, M1, N1, e1, e2, hR1⟩ := m_moveOf hR (xs (nI i + 1).toNatClampNeg) (xs (nI i + 2).toNatClampNeg)
  refine l_C_i (As := [.int (xs (nI i + 1).toNatClampNeg), .int (xs (nI i + 2).toNatClampNeg)]) X hPC hPR hS hl.1 (c_X11_moveOf l D cA q aK aV hiC e1) sk_X11_moveOf lk_1218 sw_X11_moveOf ⟨rfl, rfl⟩ ⟨Nat.le_of_ble_eq_true rfl, Nat.le_of_ble_eq_true rfl⟩ ⟨Nat.le_of_ble_eq_true rfl, Nat.le_of_ble_eq_true rfl⟩ rfl rfl (Nat.le_of_ble_eq_true rfl) dL_law_1860 (fun H locs hPC hPR hS => ?_)
  refine lv_aload_n hx hb dL_law_1863 rfl (lv_at hl 1 rfl) ?_
  refine lv_aload_n hx hb dL_law_1864 rfl (lv_at hl 3 rfl) ?_
  refine lv_iload_n hx hb dL_law_1865 rfl (lv_at hl 0 rfl) ?_
  refine lv_iconst (v := 1) hx hb dL_law_1866 (by decide) ?_
  refine lv_iadd hx hb dL_law_1867 ?_
  refine va_sld hx hb hX hbl hbA hS (lx_in hi hL (k := 1) (by decide) rfl) dL_law_1868 ?_
  refine lv_aload_n hx hb dL_law_1869 rfl (lv_at hl 3 rfl) ?_
  refine lv_iload_n hx hb dL_law_1870 rfl (lv_at hl 0 rfl) ?_
  refine lv_iconst (v := 2) hx hb dL_law_1871 (by decide) ?_
  refine lv_iadd hx hb dL_law_1872 ?_
  refine va_sld hx hb hX hbl hbA hS (lx_in hi hL (k := 2) (by decide) rfl) dL_law_1873 ?_
  refine l_R_i (As := [.int (xs (nI i + 1).toNatClampNeg), .int (xs (nI i + 2).toNatClampNeg)]) X hPC hPR hS hl.1 (c_X12_moveOf l D cA r aK aV hiR e2) sk_X12_moveOf lk_2052 sw_X12_moveOf ⟨rfl, rfl⟩ ⟨Nat.le_of_ble_eq_true rfl, Nat.le_of_ble_eq_true rfl⟩ ⟨Nat.le_of_ble_eq_true rfl, Nat.le_of_ble_eq_true rfl⟩ rfl rfl (Nat.le_of_ble_eq_true rfl) dL_law_1874 (fun H locs hPC hPR hS => ?_)
  exact lv_icmp_eq (tgt := 2010) hx hb dL_law_1877 (by decide) (fun _ => kk M1 N1 H locs hR1 hPC hPR hS) (fun z9 => absurd rfl z9)
set_option maxRecDepth 100000 in
set_option maxHeartbeats 4000000 in
theorem lc_55 {i : Nat} {M N : Mem} (hL : L ≤ 3072) (hi : i + 6 ≤ L) (X : LX p s args m c D cA q r aK aV b L xs) (hR : Rel M N) (hPC : va_P D vwCl (wsG 167 (ceC cA q) q M) H) (hPR : va_P D vwCl (wsG 20 (ceR cA r) r N) H) (hS : va_S (fun x => s.heap.size ≤ x) s.heap H locs) (hl : lv_has ls 4 [(3, .int (nI i)), (2, .ref (r 0)), (1, .ref (q 0)), (0, .ref b)]) (kk : KL p l e s m args below meth c D cA q r Q ls) : W p l e room_1 s m args below meth c H locs 187 9315 Q (F0 m 1882 ls []) := by
  obtain ⟨hx, hb, -, hown, hts, -, -, -, hiC, hiR, -, -, -, hX, hbl⟩ := id X
  have hbA : ¬ (fun x : Nat => s.heap.size ≤ x) b := Nat.not_le.mpr hbl
  refine lv_aload_n hx hb dL_law_1882 rfl (lv_at hl 2 rfl) ?_
  refine lv_aload_n hx hb dL_law_1883 rfl (lv_at hl 3 rfl) ?_
  refine lv_iload_n hx hb dL_law_1884 rfl (lv_at hl 0 rfl) ?_
  refine lv_iconst (v := 1) hx hb dL_law_1885 (by decide) ?_
  refine lv_iadd hx hb dL_law_1886 ?_
  refine va_sld hx hb hX hbl hbA hS (lx_in hi hL (k := 1) (by decide) rfl) dL_law_1887 ?_
  obtain ⟨rv, M1, N1, e1, e2, hR1⟩ := m_copyFed hR (xs (nI i + 1).toNatClampNeg)
  refine l_C_i (As := [.int (xs (nI i + 1).toNatClampNeg)]) X hPC hPR hS hl.1 (c_X11_copyFed l D cA q aK aV hiC e1) sk_X11_copyFed lk_1222 sw_X11_copyFed ⟨rfl, rfl⟩ ⟨Nat.le_of_ble_eq_true rfl, Nat.le_of_ble_eq_true rfl⟩ ⟨Nat.le_of_ble_eq_true rfl, Nat.le_of_ble_eq_true rfl⟩ rfl rfl (Nat.le_of_ble_eq_true rfl) dL_law_1888 (fun H locs hPC hPR hS => ?_)
  refine lv_aload_n hx hb dL_law_1891 rfl (lv_at hl 1 rfl) ?_
  refine lv_aload_n hx hb dL_law_1892 rfl (lv_at hl 3 rfl) ?_
  refine lv_iload_n hx hb dL_law_1893 rfl (lv_at hl 0 rfl) ?_
  refine lv_iconst (v := 1) hx hb dL_law_1894 (by decide) ?_
  refine lv_iadd hx hb dL_law_1895 ?_
  refine va_sld hx hb hX hbl hbA hS (lx_in hi hL (k := 1) (by decide) rfl) dL_law_1896 ?_
  refine l_R_i (As := [.int (xs (nI i + 1).toNatClampNeg)]) X hPC hPR hS hl.1 (c_X12_copyFed l D cA r aK aV hiR e2) sk_X12_copyFed lk_2056 sw_X12_copyFed ⟨rfl, rfl⟩ ⟨Nat.le_of_ble_eq_true rfl, Nat.le_of_ble_eq_true rfl⟩ ⟨Nat.le_of_ble_eq_true rfl, Nat.le_of_ble_eq_true rfl⟩ rfl rfl (Nat.le_of_ble_eq_true rfl) dL_law_1897 (fun H locs hPC hPR hS => ?_)
  exact lv_icmp_eq (tgt := 2010) hx hb dL_law_1900 (by decide) (fun _ => kk M1 N1 H locs hR1 hPC hPR hS) (fun z9 => absurd rfl z9)
set_option maxRecDepth 100000 in
set_option maxHeartbeats 4000000 in
theorem lc_56 {i : Nat} {M N : Mem} (hL : L ≤ 3072) (hi : i + 6 ≤ L) (X : LX p s args m c D cA q r aK aV b L xs) (hR : Rel M N) (hPC : va_P D vwCl (wsG 167 (ceC cA q) q M) H) (hPR : va_P D vwCl (wsG 20 (ceR cA r) r N) H) (hS : va_S (fun x => s.heap.size ≤ x) s.heap H locs) (hl : lv_has ls 4 [(3, .int (nI i)), (2, .ref (r 0)), (1, .ref (q 0)), (0, .ref b)]) (kk : KL p l e s m args below meth c D cA q r Q ls) : W p l e room_1 s m args below meth c H locs 187 9315 Q (F0 m 1905 ls []) := by
  obtain ⟨hx, hb, -, hown, hts, -, -, -, hiC, hiR, -, -, -, hX, hbl⟩ := id X
  have hbA : ¬ (fun x : Nat => s.heap.size ≤ x) b := Nat.not_le.mpr hbl
  refine lv_aload_n hx hb dL_law_1905 rfl (lv_at hl 2 rfl) ?_
  refine lv_aload_n hx hb dL_law_1906 rfl (lv_at hl 3 rfl) ?_
  refine lv_iload_n hx hb dL_law_1907 rfl (lv_at hl 0 rfl) ?_
  refine lv_iconst (v := 1) hx hb dL_law_1908 (by decide) ?_
  refine lv_iadd hx hb dL_law_1909 ?_
  refine va_sld hx hb hX hbl hbA hS (lx_in hi hL (k := 1) (by decide) rfl) dL_law_1910 ?_
  obtain ⟨rv, M1, N1, e1, e2, hR1⟩ := m_live hR (xs (nI i + 1).toNatClampNeg)
  refine l_C_i (As := [.int (xs (nI i + 1).toNatClampNeg)]) X hPC hPR hS hl.1 (c_X11_live l D cA q aK aV hiC e1) sk_X11_live lk_1226 sw_X11_live ⟨rfl, rfl⟩ ⟨Nat.le_of_ble_eq_true rfl, Nat.le_of_ble_eq_true rfl⟩ ⟨Nat.le_of_ble_eq_true rfl, Nat.le_of_ble_eq_true rfl⟩ rfl rfl (Nat.le_of_ble_eq_true rfl) dL_law_1911 (fun H locs hPC hPR hS => ?_)
  refine lv_aload_n hx hb dL_law_1914 rfl (lv_at hl 1 rfl) ?_
  refine lv_aload_n hx hb dL_law_1915 rfl (lv_at hl 3 rfl) ?_
  refine lv_iload_n hx hb dL_law_1916 rfl (lv_at hl 0 rfl) ?_
  refine lv_iconst (v := 1) hx hb dL_law_1917 (by decide) ?_
  refine lv_iadd hx hb dL_law_1918 ?_
  refine va_sld hx hb hX hbl hbA hS (lx_in hi hL (k := 1) (by decide) rfl) dL_law_1919 ?_
  refine l_R_i (As := [.int (xs (nI i + 1).toNatClampNeg)]) X hPC hPR hS hl.1 (c_X12_live l D cA r aK aV hiR e2) sk_X12_live lk_2060 sw_X12_live ⟨rfl, rfl⟩ ⟨Nat.le_of_ble_eq_true rfl, Nat.le_of_ble_eq_true rfl⟩ ⟨Nat.le_of_ble_eq_true rfl, Nat.le_of_ble_eq_true rfl⟩ rfl rfl (Nat.le_of_ble_eq_true rfl) dL_law_1920 (fun H locs hPC hPR hS => ?_)
  exact lv_icmp_eq (tgt := 2010) hx hb dL_law_1923 (by decide) (fun _ => kk M1 N1 H locs hR1 hPC hPR hS) (fun z9 => absurd rfl z9)
set_option maxRecDepth 100000 in
set_option maxHeartbeats 4000000 in
theorem lc_57 {i : Nat} {M N : Mem} (hL : L ≤ 3072) (hi : i + 6 ≤ L) (X : LX p s args m c D cA q r aK aV b L xs) (hR : Rel M N) (hPC : va_P D vwCl (wsG 167 (ceC cA q) q M) H) (hPR : va_P D vwCl (wsG 20 (ceR cA r) r N) H) (hS : va_S (fun x => s.heap.size ≤ x) s.heap H locs) (hl : lv_has ls 4 [(3, .int (nI i)), (2, .ref (r 0)), (1, .ref (q 0)), (0, .ref b)]) (kk : KL p l e s m args below meth c D cA q r Q ls) : W p l e room_1 s m args below meth c H locs 187 9315 Q (F0 m 1928 ls []) := by
  obtain ⟨hx, hb, -, hown, hts, -, -, -, hiC, hiR, -, -, -, hX, hbl⟩ := id X
  have hbA : ¬ (fun x : Nat => s.heap.size ≤ x) b := Nat.not_le.mpr hbl
  refine lv_aload_n hx hb dL_law_1928 rfl (lv_at hl 2 rfl) ?_
  refine lv_aload_n hx hb dL_law_1929 rfl (lv_at hl 3 rfl) ?_
  refine lv_iload_n hx hb dL_law_1930 rfl (lv_at hl 0 rfl) ?_
  refine lv_iconst (v := 1) hx hb dL_law_1931 (by decide) ?_
  refine lv_iadd hx hb dL_law_1932 ?_
  refine va_sld hx hb hX hbl hbA hS (lx_in hi hL (k := 1) (by decide) rfl) dL_law_1933 ?_
  obtain ⟨rv, M1, N1, e1, e2, hR1⟩ := m_lived hR (xs (nI i + 1).toNatClampNeg)
  refine l_C_i (As := [.int (xs (nI i + 1).toNatClampNeg)]) X hPC hPR hS hl.1 (c_X11_lived l D cA q aK aV hiC e1) sk_X11_lived lk_1289 sw_X11_lived ⟨rfl, rfl⟩ ⟨Nat.le_of_ble_eq_true rfl, Nat.le_of_ble_eq_true rfl⟩ ⟨Nat.le_of_ble_eq_true rfl, Nat.le_of_ble_eq_true rfl⟩ rfl rfl (Nat.le_of_ble_eq_true rfl) dL_law_1934 (fun H locs hPC hPR hS => ?_)
  refine lv_aload_n hx hb dL_law_1937 rfl (lv_at hl 1 rfl) ?_
  refine lv_aload_n hx hb dL_law_1938 rfl (lv_at hl 3 rfl) ?_
  refine lv_iload_n hx hb dL_law_1939 rfl (lv_at hl 0 rfl) ?_
  refine lv_iconst (v := 1) hx hb dL_law_1940 (by decide) ?_
  refine lv_iadd hx hb dL_law_1941 ?_
  refine va_sld hx hb hX hbl hbA hS (lx_in hi hL (k := 1) (by decide) rfl) dL_law_1942 ?_
  refine l_R_i (As := [.int (xs (nI i + 1).toNatClampNeg)]) X hPC hPR hS hl.1 (c_X12_lived l D cA r aK aV hiR e2) sk_X12_lived lk_2098 sw_X12_lived ⟨rfl, rfl⟩ ⟨Nat.le_of_ble_eq_true rfl, Nat.le_of_ble_eq_true rfl⟩ ⟨Nat.le_of_ble_eq_true rfl, Nat.le_of_ble_eq_true rfl⟩ rfl rfl (Nat.le_of_ble_eq_true rfl) dL_law_1943 (fun H locs hPC hPR hS => ?_)
  exact lv_icmp_eq (tgt := 2010) hx hb dL_law_1946 (by decide) (fun _ => kk M1 N1 H locs hR1 hPC hPR hS) (fun z9 => absurd rfl z9)
set_option maxRecDepth 100000 in
set_option maxHeartbeats 4000000 in
theorem lc_58 {i : Nat} {M N : Mem} (hL : L ≤ 3072) (hi : i + 6 ≤ L) (X : LX p s args m c D cA q r aK aV b L xs) (hR : Rel M N) (hPC : va_P D vwCl (wsG 167 (ceC cA q) q M) H) (hPR : va_P D vwCl (wsG 20 (ceR cA r) r N) H) (hS : va_S (fun x => s.heap.size ≤ x) s.heap H locs) (hl : lv_has ls 4 [(3, .int (nI i)), (2, .ref (r 0)), (1, .ref (q 0)), (0, .ref b)]) (kk : KL p l e s m args below meth c D cA q r Q ls) : W p l e room_1 s m args below meth c H locs 187 9315 Q (F0 m 1951 ls []) := by
  obtain ⟨hx, hb, -, hown, hts, -, -, -, hiC, hiR, -, -, -, hX, hbl⟩ := id X
  have hbA : ¬ (fun x : Nat => s.heap.size ≤ x) b := Nat.not_le.mpr hbl
  refine lv_aload_n hx hb dL_law_1951 rfl (lv_at hl 2 rfl) ?_
  refine lv_aload_n hx hb dL_law_1952 rfl (lv_at hl 3 rfl) ?_
  refine lv_iload_n hx hb dL_law_1953 rfl (lv_at hl 0 rfl) ?_
  refine lv_iconst (v := 1) hx hb dL_law_1954 (by decide) ?_
  refine lv_iadd hx hb dL_law_1955 ?_
  refine va_sld hx hb hX hbl hbA hS (lx_in hi hL (k := 1) (by decide) rfl) dL_law_1956 ?_
  refine lv_aload_n hx hb dL_law_1957 rfl (lv_at hl 3 rfl) ?_
  refine lv_iload_n hx hb dL_law_1958 rfl (lv_at hl 0 rfl) ?_
  refine lv_iconst (v := 2) hx hb dL_law_1959 (by decide) ?_
  refine lv_iadd hx hb dL_law_1960 ?_
  refine va_sld hx hb hX hbl hbA hS (lx_in hi hL (k := 2) (by decide) rfl) dL_law_1961 ?_
  obtain ⟨rv, M1, N1, e1, e2, hR1⟩ := m_mean hR (xs (nI i + 1).toNatClampNeg) (xs (nI i + 2).toNatClampNeg)
  refine l_C_i (As := [.int (xs (nI i + 1).toNatClampNeg), .int (xs (nI i + 2).toNatClampNeg)]) X hPC hPR hS hl.1 (c_X11_mean l D cA q aK aV hiC e1) sk_X11_mean lk_1293 sw_X11_mean ⟨rfl, rfl⟩ ⟨Nat.le_of_ble_eq_true rfl, Nat.le_of_ble_eq_true rfl⟩ ⟨Nat.le_of_ble_eq_true rfl, Nat.le_of_ble_eq_true rfl⟩ rfl rfl (Nat.le_of_ble_eq_true rfl) dL_law_1962 (fun H locs hPC hPR hS => ?_)
  refine lv_aload_n hx hb dL_law_1965 rfl (lv_at hl 1 rfl) ?_
  refine lv_aload_n hx hb dL_law_1966 rfl (lv_at hl 3 rfl) ?_
  refine lv_iload_n hx hb dL_law_1967 rfl (lv_at hl 0 rfl) ?_
  refine lv_iconst (v := 1) hx hb dL_law_1968 (by decide) ?_
  refine lv_iadd hx hb dL_law_1969 ?_
  refine va_sld hx hb hX hbl hbA hS (lx_in hi hL (k := 1) (by decide) rfl) dL_law_1970 ?_
  refine lv_aload_n hx hb dL_law_1971 rfl (lv_at hl 3 rfl) ?_
  refine lv_iload_n hx hb dL_law_1972 rfl (lv_at hl 0 rfl) ?_
  refine lv_iconst (v := 2) hx hb dL_law_1973 (by decide) ?_
  refine lv_iadd hx hb dL_law_1974 ?_
  refine va_sld hx hb hX hbl hbA hS (lx_in hi hL (k := 2) (by decide) rfl) dL_law_1975 ?_
  refine l_R_i (As := [.int (xs (nI i + 1).toNatClampNeg), .int (xs (nI i + 2).toNatClampNeg)]) X hPC hPR hS hl.1 (c_X12_mean l D cA r aK aV hiR e2) sk_X12_mean lk_2102 sw_X12_mean ⟨rfl, rfl⟩ ⟨Nat.le_of_ble_eq_true rfl, Nat.le_of_ble_eq_true rfl⟩ ⟨Nat.le_of_ble_eq_true rfl, Nat.le_of_ble_eq_true rfl⟩ rfl rfl (Nat.le_of_ble_eq_true rfl) dL_law_1976 (fun H locs hPC hPR hS => ?_)
  exact lv_icmp_eq (tgt := 2010) hx hb dL_law_1979 (by decide) (fun _ => kk M1 N1 H locs hR1 hPC hPR hS) (fun z9 => absurd rfl z9)
set_option maxRecDepth 100000 in
set_option maxHeartbeats 4000000 in
theorem lc_59 {i : Nat} {M N : Mem} (hL : L ≤ 3072) (hi : i + 6 ≤ L) (X : LX p s args m c D cA q r aK aV b L xs) (hR : Rel M N) (hPC : va_P D vwCl (wsG 167 (ceC cA q) q M) H) (hPR : va_P D vwCl (wsG 20 (ceR cA r) r N) H) (hS : va_S (fun x => s.heap.size ≤ x) s.heap H locs) (hl : lv_has ls 4 [(3, .int (nI i)), (2, .ref (r 0)), (1, .ref (q 0)), (0, .ref b)]) (kk : KL p l e s m args below meth c D cA q r Q ls) : W p l e room_1 s m args below meth c H locs 187 9315 Q (F0 m 1984 ls []) := by
  obtain ⟨hx, hb, -, hown, hts, -, -, -, hiC, hiR, -, -, -, hX, hbl⟩ := id X
  have hbA : ¬ (fun x : Nat => s.heap.size ≤ x) b := Nat.not_le.mpr hbl
  refine lv_aload_n hx hb dL_law_1984 rfl (lv_at hl 2 rfl) ?_
  obtain ⟨rv, M1, N1, e1, e2, hR1⟩ := m_mark hR
  refine l_C_i (As := []) X hPC hPR hS hl.1 (c_X11_mark l D cA q aK aV hiC e1) sk_X11_mark lk_1301 sw_X11_mark ⟨rfl, rfl⟩ ⟨Nat.le_of_ble_eq_true rfl, Nat.le_of_ble_eq_true rfl⟩ ⟨Nat.le_of_ble_eq_true rfl, Nat.le_of_ble_eq_true rfl⟩ rfl rfl (Nat.le_of_ble_eq_true rfl) dL_law_1985 (fun H locs hPC hPR hS => ?_)
  refine lv_aload_n hx hb dL_law_1988 rfl (lv_at hl 1 rfl) ?_
  refine l_R_i (As := []) X hPC hPR hS hl.1 (c_X12_mark l D cA r aK aV hiR e2) sk_X12_mark lk_2106 sw_X12_mark ⟨rfl, rfl⟩ ⟨Nat.le_of_ble_eq_true rfl, Nat.le_of_ble_eq_true rfl⟩ ⟨Nat.le_of_ble_eq_true rfl, Nat.le_of_ble_eq_true rfl⟩ rfl rfl (Nat.le_of_ble_eq_true rfl) dL_law_1989 (fun H locs hPC hPR hS => ?_)
  exact lv_icmp_eq (tgt := 2010) hx hb dL_law_1992 (by decide) (fun _ => kk M1 N1 H locs hR1 hPC hPR hS) (fun z9 => absurd rfl z9)
set_option maxRecDepth 100000 in
set_option maxHeartbeats 4000000 in
theorem lc_60 {i : Nat} {M N : Mem} (hL : L ≤ 3072) (hi : i + 6 ≤ L) (X : LX p s args m c D cA q r aK aV b L xs) (hR : Rel M N) (hPC : va_P D vwCl (wsG 167 (ceC cA q) q M) H) (hPR : va_P D vwCl (wsG 20 (ceR cA r) r N) H) (hS : va_S (fun x => s.heap.size ≤ x) s.heap H locs) (hl : lv_has ls 4 [(3, .int (nI i)), (2, .ref (r 0)), (1, .ref (q 0)), (0, .ref b)]) (kk : KL p l e s m args below meth c D cA q r Q ls) : W p l e room_1 s m args below meth c H locs 187 9315 Q (F0 m 1997 ls []) := by
  obtain ⟨hx, hb, -, hown, hts, -, -, -, hiC, hiR, -, -, -, hX, hbl⟩ := id X
  have hbA : ¬ (fun x : Nat => s.heap.size ≤ x) b := Nat.not_le.mpr hbl
  refine lv_aload_n hx hb dL_law_1997 rfl (lv_at hl 2 rfl) ?_
  obtain ⟨rv, M1, N1, e1, e2, hR1⟩ := m_undo hR
  refine l_C_i (As := []) X hPC hPR hS hl.1 (c_X11_undo l D cA q aK aV hiC e1) sk_X11_undo lk_1309 sw_X11_undo ⟨rfl, rfl⟩ ⟨Nat.le_of_ble_eq_true rfl, Nat.le_of_ble_eq_true rfl⟩ ⟨Nat.le_of_ble_eq_true rfl, Nat.le_of_ble_eq_true rfl⟩ rfl rfl (Nat.le_of_ble_eq_true rfl) dL_law_1998 (fun H locs hPC hPR hS => ?_)
  refine lv_aload_n hx hb dL_law_2001 rfl (lv_at hl 1 rfl) ?_
  refine l_R_i (As := []) X hPC hPR hS hl.1 (c_X12_undo l D cA r aK aV hiR e2) sk_X12_undo lk_2114 sw_X12_undo ⟨rfl, rfl⟩ ⟨Nat.le_of_ble_eq_true rfl, Nat.le_of_ble_eq_true rfl⟩ ⟨Nat.le_of_ble_eq_true rfl, Nat.le_of_ble_eq_true rfl⟩ rfl rfl (Nat.le_of_ble_eq_true rfl) dL_law_2002 (fun H locs hPC hPR hS => ?_)
  exact lv_icmp_eq (tgt := 2010) hx hb dL_law_2005 (by decide) (fun _ => kk M1 N1 H locs hR1 hPC hPR hS) (fun z9 => absurd rfl z9)
end LAWC
